/-! rows that are searched: the leaves in their order, each with its cost; the best of them -/
abbrev Lf : Type := Nat × Sc
def levX (rec : Sc → Nat → List Lf) (p : Nat) (r : Sc) (c j : Nat) (o : Option Nat) : List Lf := match o with
  | none => []
  | some x => rec (pu r p (nI j)) (c + x)
def levI (rec : Sc → Nat → List Lf) (st : Nat → Sc → Option Nat) (p : Nat) (r : Sc) (c : Nat) : Nat → Nat → List Lf
  | 0, _ => []
  | k + 1, j => levX rec p r c j (st j r) ++ levI rec st p r c k (j + 1)
def lev (K : Nat) (st : Nat → Nat → Sc → Option Nat) : Nat → Nat → Sc → Nat → List Lf
  | 0, _, r, c => [(c, r)]
  | m + 1, p, r, c => levI (lev K st m (p + 1)) (st p) p r c K 0
theorem levI_all {rec : Sc → Nat → List Lf} {st : Nat → Sc → Option Nat} {p : Nat} {r : Sc} {c : Nat} {Q : Lf → Prop} (h : ∀ j x l, st j r = some x → l ∈ rec (pu r p (nI j)) (c + x) → Q l) : ∀ (k j : Nat) (l : Lf), l ∈ levI rec st p r c k j → Q l := by
  intro k
  induction k with
  | zero => intro j l hl; cases hl
  | succ k ih =>
    intro j l hl
    simp only [levI] at hl
    rcases List.mem_append.mp hl with q | q
    · cases hs : st j r with
      | none => rw [hs] at q; cases q
      | some x => rw [hs] at q; exact h j x l hs q
    · exact ih (j + 1) l q
theorem lev_ge {K : Nat} {st : Nat → Nat → Sc → Option Nat} : ∀ (m p : Nat) (r : Sc) (c : Nat) (l : Lf), l ∈ lev K st m p r c → c ≤ l.1 := by
  intro m
  induction m with
  | zero => intro p r c l hl; simp only [lev, List.mem_singleton] at hl; rw [hl]; exact Nat.le_refl _
  | succ m ih => intro p r c l hl; exact levI_all (Q := fun l => c ≤ l.1) (fun j x l _ hl => by have := ih _ _ _ _ hl; omega) K 0 l hl
theorem lev_le {K : Nat} {st : Nat → Nat → Sc → Option Nat} (h1 : ∀ p j r x, st p j r = some x → x ≤ 1) : ∀ (m p : Nat) (r : Sc) (c : Nat) (l : Lf), l ∈ lev K st m p r c → l.1 ≤ c + m := by
  intro m
  induction m with
  | zero => intro p r c l hl; simp only [lev, List.mem_singleton] at hl; rw [hl]; exact Nat.le_refl _
  | succ m ih => intro p r c l hl; exact levI_all (Q := fun l => l.1 ≤ c + (m + 1)) (fun j x l hs hl => by have := ih _ _ _ _ hl; have := h1 _ _ _ _ hs; omega) K 0 l hl
/-- a row's places, and a property that holds of each choice -/
theorem lev_row {K : Nat} {st : Nat → Nat → Sc → Option Nat} {Q : Int32 → Prop} (hQ : ∀ p j r x, st p j r = some x → Q (nI j)) : ∀ (m p : Nat) (r : Sc) (c : Nat) (l : Lf), (∀ i, i < p → Q (r i)) → l ∈ lev K st m p r c → ∀ i, i < p + m → Q (l.2 i) := by
  intro m
  induction m with
  | zero => intro p r c l hr hl; simp only [lev, List.mem_singleton] at hl; rw [hl]; exact hr
  | succ m ih =>
    intro p r c l hr hl
    refine levI_all (Q := fun l => ∀ i, i < p + (m + 1) → Q (l.2 i)) (fun j x l hs hl => ?_) K 0 l hl
    intro i hi
    refine ih (p + 1) _ _ l (fun q hq => ?_) hl i (by omega)
    by_cases e : q = p
    · subst e; rw [pu_s]; exact hQ _ _ _ _ hs
    · rw [pu_n _ _ _ e]; exact hr q (by omega)
def bst1 (o : Option Lf) (l : Lf) : Option Lf := match o with
  | none => some l
  | some b => if l.1 < b.1 then some l else some b
def bst (o : Option Lf) (L : List Lf) : Option Lf := L.foldl bst1 o
theorem bst_app (o : Option Lf) (L M : List Lf) : bst o (L ++ M) = bst (bst o L) M := by unfold bst; rw [List.foldl_append]
def wi (lim : Nat) (L : List Lf) : Option Lf := L.find? (fun l => decide (l.1 ≤ lim))
theorem wi_app (lim : Nat) (L M : List Lf) : wi lim (L ++ M) = (wi lim L).or (wi lim M) := by unfold wi; rw [List.find?_append]
theorem wi_none {lim : Nat} {L : List Lf} (h : ∀ l, l ∈ L → lim < l.1) : wi lim L = none := by
  unfold wi; rw [List.find?_eq_none]; intro l hl; have := h l hl; simp; omega
theorem bst_some : ∀ (L : List Lf) (b0 b : Lf), bst (some b0) L = some b → (b = b0 ∧ ∀ l, l ∈ L → b0.1 ≤ l.1) ∨ (b.1 < b0.1 ∧ wi b.1 L = some b ∧ ∀ l, l ∈ L → b.1 ≤ l.1) := by
  intro L
  induction L with
  | nil => intro b0 b h; injection h with h; exact Or.inl ⟨h.symm, fun l hl => by cases hl⟩
  | cons x L ih =>
    intro b0 b h
    have h : bst (bst1 (some b0) x) L = some b := h
    by_cases c : x.1 < b0.1
    · rw [show bst1 (some b0) x = some x from if_pos c] at h
      rcases ih x b h with ⟨q1, q2⟩ | ⟨q1, q2, q3⟩
      · subst q1
        refine Or.inr ⟨c, ?_, fun l hl => ?_⟩
        · unfold wi; rw [List.find?_cons_of_pos (by simp)]
        · rcases List.mem_cons.mp hl with e | e
          · rw [e]; exact Nat.le_refl _
          · exact q2 l e
      · refine Or.inr ⟨by omega, ?_, fun l hl => ?_⟩
        · unfold wi; rw [List.find?_cons_of_neg (by simp; omega)]; exact q2
        · rcases List.mem_cons.mp hl with e | e
          · rw [e]; omega
          · exact q3 l e
    · rw [show bst1 (some b0) x = some b0 from if_neg c] at h
      rcases ih b0 b h with ⟨q1, q2⟩ | ⟨q1, q2, q3⟩
      · exact Or.inl ⟨q1, fun l hl => by
          rcases List.mem_cons.mp hl with e | e
          · rw [e]; omega
          · exact q2 l e⟩
      · refine Or.inr ⟨q1, ?_, fun l hl => ?_⟩
        · unfold wi; rw [List.find?_cons_of_neg (by simp; omega)]; exact q2
        · rcases List.mem_cons.mp hl with e | e
          · rw [e]; omega
          · exact q3 l e
theorem bst_is (L : List Lf) : (L = [] ∧ bst none L = none) ∨ ∃ b, bst none L = some b ∧ wi b.1 L = some b ∧ b ∈ L ∧ ∀ l, l ∈ L → b.1 ≤ l.1 := by
  cases L with
  | nil => exact Or.inl ⟨rfl, rfl⟩
  | cons x L =>
    right
    have ex : ∀ (M : List Lf) (z : Lf), ∃ b, bst (some z) M = some b := by
      intro M
      induction M with
      | nil => intro z; exact ⟨z, rfl⟩
      | cons y M ih =>
        intro z
        show ∃ b, bst (bst1 (some z) y) M = some b
        unfold bst1
        dsimp only
        split
        · exact ih y
        · exact ih z
    obtain ⟨b, hb⟩ := ex L x
    refine ⟨b, hb, ?_⟩
    rcases bst_some L x b hb with ⟨q1, q2⟩ | ⟨q1, q2, q3⟩
    · subst q1
      refine ⟨?_, by simp, fun l hl => ?_⟩
      · unfold wi; rw [List.find?_cons_of_pos (by simp)]
      · rcases List.mem_cons.mp hl with e | e
        · rw [e]; exact Nat.le_refl _
        · exact q2 l e
    · refine ⟨?_, ?_, fun l hl => ?_⟩
      · unfold wi; rw [List.find?_cons_of_neg (by simp; omega)]; exact q2
      · unfold wi at q2; exact List.mem_cons_of_mem _ (List.mem_of_find?_eq_some q2)
      · rcases List.mem_cons.mp hl with e | e
        · rw [e]; omega
        · exact q3 l e
/-! seats -/
def tak (r : Sc) (j : Nat) : Nat → Bool
  | 0 => false
  | q + 1 => tak r j q || decide (r q = nI j)
def foe (x : Int32) (r : Sc) (j : Nat) : Nat → Nat → Bool
  | 0, _ => false
  | k + 1, q => (bitV x q && besV (nI j) (r q)) || foe x r j k (q + 1)
def seatS (f fe : Sc) (p j : Nat) (r : Sc) : Option Nat := if tak r j p = true ∨ foe (fe p) r j p 0 = true then none else some (if nI j = f (17 + p) then 0 else 1)
theorem tak_eq {r r' : Sc} (j : Nat) : ∀ q, (∀ i, i < q → r i = r' i) → tak r j q = tak r' j q := by
  intro q
  induction q with
  | zero => intro _; rfl
  | succ q ih => intro h; simp only [tak]; rw [ih (fun i hi => h i (by omega)), h q (by omega)]
theorem foe_eq {x : Int32} {r r' : Sc} (j : Nat) : ∀ k q, (∀ i, i < q + k → r i = r' i) → foe x r j k q = foe x r' j k q := by
  intro k
  induction k with
  | zero => intro q _; rfl
  | succ k ih => intro q h; simp only [foe]; rw [ih (q + 1) (fun i hi => h i (by omega)), h q (by omega)]
theorem tk_b : ∀ m, m < 256 → ∀ j, j < 8 → ((nI m >>> (nI j &&& 31)) &&& nI 1 = 0 ↔ m.testBit j = false) := by decide +kernel
theorem tk_o : ∀ m, m < 256 → ∀ j, j < 8 → (nI m ||| (nI 1 <<< (nI j &&& 31))) = nI (m ||| 2 ^ j) ∧ m ||| 2 ^ j < 256 := by decide +kernel
theorem c_foe (X : XE) (d : Nat) (im lw : List (Option Nat)) (tl : List XC) (iv : Nat → Nat → Int32) (lv : Nat → Nat → Int64) {p j : Nat} (hp : p < 6) {x : Int32} (hx : iv 6 p = x) : ∀ (k q : Nat), q + k = p → run X (call X xT (d + 1)) false 4 xc156 3 [some (.inr (.inr (some 21))), some (.inr (.inr (some 1))), some (.inl (nI p)), some (.inl (nI j)), some (.inl (nI q))] [] (SS im lw tl, iv, lv) = some (some (.inl (b2i (foe x (iv 26) j k q))), (SS im lw tl, iv, lv)) := by
  intro k
  induction k with
  | zero =>
    intro q hq
    rw [sg156_3, if_pos (nI_le (by omega) (by omega))]
    rfl
  | succ k ih =>
    intro q hq
    rw [sg156_3, if_neg (nI_ge (by omega) (by omega)), if_neg (nI_ge (by omega) (by omega)), objR_ok (show (SS im lw tl)[1]? = some (9, 6, [some 2, some 4, some 6, some 7, none, none]) from rfl) rfl, tr42, if_neg (nI_pos (by omega)), if_neg (nI_ge (by omega) (by omega)), if_pos (inb_nI (by omega) (by omega)), bI_some, sg156_21, nI_clamp (by omega), hx, nI_add]
    simp only [foe]
    by_cases c : bitV x q = true
    · rw [if_neg (fun e => by rw [(bit_0 x q).mp e] at c; cases c), if_pos (inb_nI (by omega) (by omega)), c_beside, bI_some, sg156_40, nI_clamp (by omega), c, Bool.true_and, b2i_ite, nI_add]
      cases besV (nI j) (iv 26 q)
      · rw [if_neg (by decide), Bool.false_or]; exact ih (q + 1) (by omega)
      · rw [if_pos rfl, Bool.true_or]; rfl
    · have c := Bool.eq_false_iff.mpr c
      rw [if_pos ((bit_0 x q).mpr c), c, Bool.false_and, Bool.false_or]
      exact ih (q + 1) (by omega)
theorem sg155_19s (X : XE) (cl : XCl) (im lw : List (Option Nat)) (tl : List XC) (iv : Nat → Nat → Int32) (lv : Nat → Nat → Int64) (v2 v3 v4 v5 : Int32) (w6 : Option XV) : run X cl false 4 xc155 19 [some (.inr (.inr (some 21))), some (.inr (.inr (some 1))), some (.inl v2), some (.inl v3), some (.inl v4), some (.inl v5), w6] [] (SS im lw tl, iv, lv) = if nI 8 ≤ v5 then some (some (.inl (nI 0)), (SS im lw tl, iv, lv)) else bI (cl 18 [.inr (.inr (some 2)), .inl (nI 17), .inl v2] (SS im lw tl, iv, lv)) (fun r4 h3 => run X cl false 4 xc155 38 [some (.inr (.inr (some 21))), some (.inr (.inr (some 1))), some (.inl v2), some (.inl v3), some (.inl v4), some (.inl v5), w6] [.inl r4, .inl v5] h3) := sg155_19 X cl im lw tl iv lv (some 1) v2 v3 v4 v5 w6
theorem seat_le {f fe : Sc} : ∀ p j r x, seatS f fe p j r = some x → x ≤ 1 := by
  intro p j r x h
  unfold seatS at h
  split at h
  · cases h
  · injection h with h; rw [← h]; split <;> omega
theorem nI_inj8 : ∀ a, a < 8 → ∀ b, b < 8 → nI a = nI b → a = b := by decide +kernel
/-- what a search for seats leaves -/
def sitR (im lw : List (Option Nat)) (tl : List XC) (lv : Nat → Nat → Int64) (n p : Nat) (r : Sc) (iv : Nat → Nat → Int32) (o : Option Lf) (T : Option XR) : Prop := ∃ iv', T = some (some (.inl (b2i o.isSome)), (SS im lw tl, iv', lv)) ∧ fr [26] iv iv' ∧ (∀ i, i < p → iv' 26 i = r i) ∧ ∀ l, o = some l → ∀ i, i < n → iv' 26 i = l.2 i
theorem tak_up {r : Sc} {p j s tk : Nat} (hj : j < 8) (hs : s < 8) (hb : tk.testBit s = tak r s p) : (tk ||| 2 ^ j).testBit s = tak (pu r p (nI j)) s (p + 1) := by
  simp only [tak]
  rw [Nat.testBit_or, hb, Nat.testBit_two_pow, pu_s, tak_eq s p (fun i hi => pu_n r p (nI j) (by omega))]
  congr 1
  rw [decide_eq_decide]
  exact ⟨fun e => by rw [e], fun e => nI_inj8 j hj s hs e⟩
theorem c_sits (X : XE) (im lw : List (Option Nat)) (tl : List XC) (lv : Nat → Nat → Int64) {f fe : Sc} {n : Nat} (hn : n ≤ 6) {lim : Nat} (hl : lim ≤ 6) : ∀ (m p : Nat), p + m = n → ∀ (d : Nat) (iv : Nat → Nat → Int32) (r : Sc) (c tk : Nat), iv 21 9 = nI n → (∀ j, j < 59 → iv 3 j = f j) → (∀ q, q < 6 → iv 6 q = fe q) → (∀ i, i < p → iv 26 i = r i) → c ≤ lim → tk < 256 → (∀ s, s < 8 → tk.testBit s = tak r s p) → sitR im lw tl lv n p r iv (wi lim (lev 8 (seatS f fe) m p r c)) (call X xT (d + 3 + m) 155 [.inr (.inr (some 21)), .inr (.inr (some 1)), .inl (nI p), .inl (nI (lim - c)), .inl (nI tk)] (SS im lw tl, iv, lv)) := by
  intro m
  induction m with
  | zero =>
    intro p hp d iv r c tk h9 hf hfe hr hc ht hb
    have : p = n := by omega
    subst this
    have e : wi lim (lev 8 (seatS f fe) 0 p r c) = some (c, r) := by
      unfold wi; simp only [lev]; rw [List.find?_cons_of_pos (by simpa using hc)]
    rw [tr155, h9, if_pos (nI_le (by omega) (by omega)), e]
    exact ⟨iv, rfl, fun _ _ => rfl, hr, fun l hl i hi => by injection hl with hl; rw [← hl]; exact hr i hi⟩
  | succ m ih =>
    intro p hp d iv r c tk h9 hf hfe hr hc ht hb
    have ih := fun iv r c tk => ih (p + 1) (by omega) d iv r c tk
    rw [show d + 3 + (m + 1) = (d + 3 + m) + 1 from rfl, tr155, h9, if_neg (nI_ge (by omega) (by omega)), if_pos (nI_lt (by omega) (by omega))]
    obtain ⟨D, hD⟩ : ∃ D, d + 3 + m = D + 2 := ⟨d + 1 + m, by omega⟩
    rw [hD] at ih ⊢
    have loop : ∀ (k j : Nat), j + k = 8 → ∀ (iv : Nat → Nat → Int32) (w6 : Option XV), iv 21 9 = nI n → (∀ j, j < 59 → iv 3 j = f j) → (∀ q, q < 6 → iv 6 q = fe q) → (∀ i, i < p → iv 26 i = r i) → sitR im lw tl lv n p r iv (wi lim (levI (lev 8 (seatS f fe) m (p + 1)) (seatS f fe p) p r c k j)) (run X (call X xT (D + 2)) false 4 xc155 19 [some (.inr (.inr (some 21))), some (.inr (.inr (some 1))), some (.inl (nI p)), some (.inl (nI (lim - c))), some (.inl (nI tk)), some (.inl (nI j)), w6] [] (SS im lw tl, iv, lv)) := by
      intro k
      induction k with
      | zero =>
        intro j hj iv w6 h9 hf hfe hr
        rw [sg155_19s, if_pos (nI_le (by omega) (by omega))]
        exact ⟨iv, rfl, fun _ _ => rfl, hr, fun l hl => by cases hl⟩
      | succ k ik =>
        intro j hj iv w6 h9 hf hfe hr
        simp only [levI]
        rw [wi_app]
        have skip : ∀ (w : Option XV), wi lim (levX (lev 8 (seatS f fe) m (p + 1)) p r c j (seatS f fe p j r)) = none → sitR im lw tl lv n p r iv ((wi lim (levX (lev 8 (seatS f fe) m (p + 1)) p r c j (seatS f fe p j r))).or (wi lim (levI (lev 8 (seatS f fe) m (p + 1)) (seatS f fe p) p r c k (j + 1)))) (run X (call X xT (D + 2)) false 4 xc155 19 [some (.inr (.inr (some 21))), some (.inr (.inr (some 1))), some (.inl (nI p)), some (.inl (nI (lim - c))), some (.inl (nI tk)), some (.inl (nI (j + 1))), w] [] (SS im lw tl, iv, lv)) := by
          intro w e
          rw [e, Option.none_or]
          exact ik (j + 1) (by omega) iv w h9 hf hfe hr
        rw [sg155_19s, if_neg (nI_ge (by omega) (by omega)), c_get0 (sc2 im lw tl) (x := 17) (y := p) (by omega), bI_some, sg155_38, hf (17 + p) (by omega), nI_add]
        have tb := tk_b tk ht j (by omega)
        rw [hb j (by omega)] at tb
        have key : ∀ (v6 : Int32) (x : Nat), (tak r j p = false → foe (fe p) r j p 0 = false → seatS f fe p j r = some x) → ((v6 < 0 ∧ lim < c + x) ∨ (v6 = nI (lim - (c + x)) ∧ c + x ≤ lim)) → sitR im lw tl lv n p r iv ((wi lim (levX (lev 8 (seatS f fe) m (p + 1)) p r c j (seatS f fe p j r))).or (wi lim (levI (lev 8 (seatS f fe) m (p + 1)) (seatS f fe p) p r c k (j + 1)))) (if ((nI tk >>> (nI j &&& 31)) &&& nI 1) = 0 then (if v6 < 0 then run X (call X xT (D + 2)) false 4 xc155 19 [some (.inr (.inr (some 21))), some (.inr (.inr (some 1))), some (.inl (nI p)), some (.inl (nI (lim - c))), some (.inl (nI tk)), some (.inl (nI (j + 1))), some (.inl v6)] [] (SS im lw tl, iv, lv) else bI (call X xT (D + 2) 156 [.inr (.inr (some 21)), .inr (.inr (some 1)), .inl (nI p), .inl (nI j)] (SS im lw tl, iv, lv)) (fun r2 h1 => run X (call X xT (D + 2)) false 4 xc155 73 [some (.inr (.inr (some 21))), some (.inr (.inr (some 1))), some (.inl (nI p)), some (.inl (nI (lim - c))), some (.inl (nI tk)), some (.inl (nI j)), some (.inl v6)] [.inl r2] h1)) else run X (call X xT (D + 2)) false 4 xc155 19 [some (.inr (.inr (some 21))), some (.inr (.inr (some 1))), some (.inl (nI p)), some (.inl (nI (lim - c))), some (.inl (nI tk)), some (.inl (nI (j + 1))), some (.inl v6)] [] (SS im lw tl, iv, lv)) := by
          intro v6 x hx hv
          by_cases ct : tak r j p = true
          · rw [if_neg (fun e => by rw [tb.mp e] at ct; cases ct)]
            exact skip _ (by rw [show seatS f fe p j r = none from if_pos (Or.inl ct)]; rfl)
          have ct := Bool.eq_false_iff.mpr ct
          rw [if_pos (tb.mpr ct)]
          rcases hv with ⟨v1, v2⟩ | ⟨v1, v2⟩
          · rw [if_pos v1]
            refine skip _ (wi_none (fun l hl => ?_))
            by_cases cf : foe (fe p) r j p 0 = true
            · rw [show seatS f fe p j r = none from if_pos (Or.inr cf)] at hl; cases hl
            · rw [hx ct (Bool.eq_false_iff.mpr cf)] at hl
              have := lev_ge _ _ _ _ _ hl
              omega
          · rw [v1, if_neg (nI_pos (by omega)), tr156, c_foe X D im lw tl iv lv (by omega) (hfe p (by omega)) p 0 (by omega), bI_some, sg155_73, foe_eq (r' := r) j p 0 (fun i hi => hr i (by omega))]
            by_cases cf : foe (fe p) r j p 0 = true
            · rw [cf, if_neg (by decide), nI_add]
              exact skip _ (by rw [show seatS f fe p j r = none from if_pos (Or.inr cf)]; rfl)
            have cf := Bool.eq_false_iff.mpr cf
            rw [cf, if_pos (by decide), if_pos (inb_nI (by omega) (by omega)), nI_add, (tk_o tk ht j (by omega)).1, nI_clamp (by omega), hx ct cf]
            have off : ∀ a, a ≠ 26 → (upd2 iv 26 p (nI j)) a = iv a := fun a ha => upd2_off _ _ _ _ ha
            obtain ⟨iv1, a1, a2, a3, a4⟩ := ih (upd2 iv 26 p (nI j)) (pu r p (nI j)) (c + x) (tk ||| 2 ^ j) (by rw [off 21 (by decide)]; exact h9) (by rw [off 3 (by decide)]; exact hf) (by rw [off 6 (by decide)]; exact hfe) (fun i hi => by
              by_cases e : i = p
              · subst e; rw [upd2_self, pu_s]
              · rw [upd2_ne _ _ _ _ (fun q => e q.2), pu_n _ _ _ e]; exact hr i (by omega)) v2 (tk_o tk ht j (by omega)).2 (fun s hs => tak_up (by omega) hs (hb s hs))
            have f1 : fr [26] iv iv1 := (fr_upd _ _ _ (by simp)).tr a2
            have r1 : ∀ i, i < p → iv1 26 i = r i := fun i hi => by rw [a3 i (by omega), pu_n _ _ _ (by omega)]
            rw [a1, bI_some, sg155_104, b2i_ite]
            show sitR im lw tl lv n p r iv ((wi lim (lev 8 (seatS f fe) m (p + 1) (pu r p (nI j)) (c + x))).or _) _
            cases hw : wi lim (lev 8 (seatS f fe) m (p + 1) (pu r p (nI j)) (c + x)) with
            | none =>
              rw [if_neg (by decide), Option.none_or, nI_add]
              obtain ⟨iv2, b1, b2, b3, b4⟩ := ik (j + 1) (by omega) iv1 (some (.inl (nI (lim - (c + x))))) (by rw [f1 21 (by decide)]; exact h9) (by rw [f1 3 (by decide)]; exact hf) (by rw [f1 6 (by decide)]; exact hfe) r1
              exact ⟨iv2, b1, f1.tr b2, b3, b4⟩
            | some l =>
              rw [if_pos (by rfl), Option.some_or]
              exact ⟨iv1, rfl, f1, r1, fun l' hl' => a4 l' (by rw [hw]; exact hl')⟩
        by_cases ce : nI j = f (17 + p)
        · rw [if_pos ce]
          have hx0 : tak r j p = false → foe (fe p) r j p 0 = false → seatS f fe p j r = some 0 := fun q1 q2 => by
            unfold seatS; rw [q1, q2, if_neg (by simp), if_pos ce]
          exact key (nI (lim - c)) 0 hx0 (Or.inr ⟨rfl, hc⟩)
        · rw [if_neg ce]
          have hx1 : tak r j p = false → foe (fe p) r j p 0 = false → seatS f fe p j r = some 1 := fun q1 q2 => by
            unfold seatS; rw [q1, q2, if_neg (by simp), if_neg ce]
          refine key (nI (lim - c) - nI 1) 1 hx1 ?_
          by_cases c1 : c + 1 ≤ lim
          · exact Or.inr ⟨by rw [pk_sub (by omega), show lim - c - 1 = lim - (c + 1) by omega], c1⟩
          · exact Or.inl ⟨by rw [show lim - c = 0 by omega]; decide, by omega⟩
    exact loop 8 0 (by omega) iv none h9 hf hfe hr
