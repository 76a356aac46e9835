/-! scenes of the class: the rest; what stays -/
/-- all cells stay but those of a row -/
def fr (L : List Nat) (iv iv' : Nat → Nat → Int32) : Prop := ∀ a, a ∉ L → iv' a = iv a
theorem fr.rf {L : List Nat} {iv : Nat → Nat → Int32} : fr L iv iv := fun _ _ => rfl
theorem fr.tr {L : List Nat} {a b c : Nat → Nat → Int32} (h : fr L a b) (h2 : fr L b c) : fr L a c := fun x hx => (h2 x hx).trans (h x hx)
theorem fr.mo {L L' : List Nat} {a b : Nat → Nat → Int32} (h : fr L a b) (hs : ∀ x, x ∈ L → x ∈ L') : fr L' a b := fun x hx => h x (fun q => hx (hs x q))
theorem fr_upr (iv : Nat → Nat → Int32) (g : Nat → Int32) {L : List Nat} {a : Nat} (h : a ∈ L) : fr L iv (upr iv a g) := fun x hx => upr_off _ _ _ (fun e => hx (e ▸ h))
theorem fr_upd (iv : Nat → Nat → Int32) (k : Nat) (v : Int32) {L : List Nat} {a : Nat} (h : a ∈ L) : fr L iv (upd2 iv a k v) := fun x hx => upd2_off _ _ _ _ (fun e => hx (e ▸ h))
theorem agC.fr {iv iv' : Nat → Nat → Int32} (h : agC iv iv') {L : List Nat} (h1 : 20 ∈ L) (h2 : 18 ∈ L) : fr L iv iv' := fun x hx => h x (fun e => hx (e ▸ h1)) (fun e => hx (e ▸ h2))
/-- a law that hangs on the later cells alone -/
def lawT (S : List XC) (iv : Nat → Nat → Int32) (r : Option Nat) (cl : Nat → CL) (n : Nat) : Prop := ∀ iv', (∀ a, 79 ≤ a → iv' a = iv a) → lawC S iv' r cl n
theorem lawT.S {S : List XC} {iv : Nat → Nat → Int32} {r : Option Nat} {cl : Nat → CL} {n : Nat} (h : lawT S iv r cl n) : lawS S iv r cl n := fun iv' h2 => h iv' (fun a ha => h2 a (by omega) (by omega))
theorem lawT.fr {S : List XC} {iv iv' : Nat → Nat → Int32} {r : Option Nat} {cl : Nat → CL} {n : Nat} {L : List Nat} (h : lawT S iv r cl n) (hL : ∀ x, x ∈ L → x < 79) (h2 : fr L iv iv') : lawT S iv' r cl n := fun iv2 h3 => h iv2 (fun a ha => (h3 a ha).trans (h2 a (fun q => by have := hL a q; omega)))
theorem sc_ld {X : XE} {S : List XC} {iv : Nat → Nat → Int32} {a c : Nat} (h : scell S a c) {k : Nat} (hk : k < 59) (K : Int32 → Option XR) : obj S (some a) 7 0 (fun _ c2 => ild X S iv (c2.2.2.getD 0 none) 50 (nI k) K) = K (iv c k) := by
  rw [obj_ok (ci := 7) (fi := 0) h.1 rfl (show (0 : Nat) < 1 by decide)]
  show ild X S iv (some c) 50 (nI k) _ = _
  rw [ild_ok X iv h.2.2 h.2.1 rfl (inb_nI hk (by omega)), nI_clamp (by omega)]
theorem sc_st {S : List XC} {a c : Nat} (h : scell S a c) {k : Nat} (hk : k < 59) (K : Nat → Option XR) : obj S (some a) 7 0 (fun _ c2 => arr S (c2.2.2.getD 0 none) 50 (nI k) (fun a3 _ => K a3)) = K c := by
  rw [obj_ok (ci := 7) (fi := 0) h.1 rfl (show (0 : Nat) < 1 by decide)]
  show arr S (some c) 50 (nI k) _ = _
  rw [arr_ok h.2.1 rfl (inb_nI hk (by omega))]
/-- is one of m provinces from q on on tub b -/
def tubV (f : Nat → Int32) (b : Int32) : Nat → Nat → Bool
  | 0, _ => false
  | m + 1, q => decide (f (17 + q) = b) || tubV f b m (q + 1)
theorem c_onTub_loop {X : XE} {d : Nat} {S : List XC} {iv : Nat → Nat → Int32} {lv : Nat → Nat → Int64} {a c : Nat} (h : scell S a c) (b : Int32) {n : Nat} (hn : n ≤ 6) (h0 : iv c 0 = nI n) : ∀ (m q : Nat), q + m = n → ∃ r, run X (call X xT (d + 1)) false 1 xc17 2 [some (.inr (.inr (some a))), some (.inl b), some (.inl (nI q))] [] (S, iv, lv) = some (some (.inl r), (S, iv, lv)) ∧ ((r = -1) ↔ tubV (iv c) b m q = false) := by
  intro m
  induction m with
  | zero =>
    intro q hq
    rw [sg17_2, sc_ld h (by omega), h0, if_pos (nI_le (by omega) (by omega))]
    exact ⟨_, rfl, by simp [tubV]⟩
  | succ m ih =>
    intro q hq
    rw [sg17_2, sc_ld h (by omega), h0, if_neg (nI_ge (show q < n by omega) (by omega)), objR_ok h.1 rfl, c_get0 h (by omega), bI_some, sg17_19]
    by_cases e : iv c (17 + q) = b
    · rw [if_pos e]
      refine ⟨_, rfl, ?_⟩
      simp only [tubV, e, decide_true, Bool.true_or]
      exact ⟨fun q => absurd q (nI_m1 (by omega)), fun q => by cases q⟩
    · rw [if_neg e, nI_add]
      simp only [tubV, e, decide_false, Bool.false_or]
      exact ih (q + 1) (by omega)
theorem c_onTub {X : XE} {d : Nat} {S : List XC} {iv : Nat → Nat → Int32} {lv : Nat → Nat → Int64} {a c : Nat} (h : scell S a c) (b : Int32) {n : Nat} (hn : n ≤ 6) (h0 : iv c 0 = nI n) : ∃ r, call X xT (d + 2) 17 [.inr (.inr (some a)), .inl b] (S, iv, lv) = some (some (.inl r), (S, iv, lv)) ∧ ((r = -1) ↔ tubV (iv c) b n 0 = false) := by
  rw [tr17]
  exact c_onTub_loop h b hn h0 n 0 (by omega)
/-- Scene.addProvince on a row, n provinces there -/
def addPF (f : Nat → Int32) (n : Nat) (x y z : Int32) : Nat → Int32 := pu (pu (pu (pu f (5 + n) x) (11 + n) y) (17 + n) z) 0 (nI (n + 1))
theorem c_addP {X : XE} {d : Nat} {S : List XC} {iv : Nat → Nat → Int32} {lv : Nat → Nat → Int64} {a c : Nat} (h : scell S a c) (x y z : Int32) {n : Nat} (hn : n < 6) (h0 : iv c 0 = nI n) : call X xT (d + 2) 21 [.inr (.inr (some a)), .inl x, .inl y, .inl z] (S, iv, lv) = some (some (.inl (nI n)), (S, upr iv c (addPF (iv c) n x y z), lv)) := by
  rw [tr21, sc_ld h (by omega), h0, if_pos (nI_lt hn (by omega)), objR_ok h.1 rfl, c_set0 h (by omega), bV_some, sg21_25, objR_ok h.1 rfl, c_set0 h (by omega), bV_some, sg21_34, objR_ok h.1 rfl, c_set0 h (by omega), bV_some, sg21_43, sc_st h (by omega)]
  simp only [upr_self, upr_upr, upd2_upr, nI_add]
  rfl
theorem c_addPfull {X : XE} {d : Nat} {S : List XC} {iv : Nat → Nat → Int32} {lv : Nat → Nat → Int64} {a c : Nat} (h : scell S a c) (x y z : Int32) (h0 : iv c 0 = nI 6) : call X xT (d + 1) 21 [.inr (.inr (some a)), .inl x, .inl y, .inl z] (S, iv, lv) = some (some (.inl (-1)), (S, iv, lv)) := by
  rw [tr21, sc_ld h (by omega), h0, if_neg (by decide)]
/-- Scene.addTamer on a row, n tamers there -/
def addTF (f : Nat → Int32) (n : Nat) (x y : Int32) : Nat → Int32 := pu (pu (pu (pu f (23 + n) x) (27 + n) y) (31 + n) (nI 2)) 1 (nI (n + 1))
theorem c_addT {X : XE} {d : Nat} {S : List XC} {iv : Nat → Nat → Int32} {lv : Nat → Nat → Int64} {a c : Nat} (h : scell S a c) (x y : Int32) {n : Nat} (hn : n < 4) (h0 : iv c 1 = nI n) : call X xT (d + 2) 45 [.inr (.inr (some a)), .inl x, .inl y] (S, iv, lv) = some (some (.inl (nI n)), (S, upr iv c (addTF (iv c) n x y), lv)) := by
  rw [tr45, sc_ld h (by omega), h0, if_pos (nI_lt hn (by omega)), objR_ok h.1 rfl, c_set0 h (by omega), bV_some, sg45_22, objR_ok h.1 rfl, c_set0 h (by omega), bV_some, sg45_30, objR_ok h.1 rfl, c_set0 h (by omega), bV_some, sg45_38, sc_st h (by omega)]
  simp only [upr_self, upr_upr, upd2_upr, nI_add]
  rfl
/-- the arms of m tamers from q on, and x -/
def armsV (f : Nat → Int32) : Nat → Nat → Int32 → Int32
  | 0, _, x => x
  | m + 1, q, x => armsV f m (q + 1) (x + f (31 + q))
theorem c_arms_loop {X : XE} {d : Nat} {S : List XC} {iv : Nat → Nat → Int32} {lv : Nat → Nat → Int64} {a c : Nat} (h : scell S a c) {n : Nat} (hn : n ≤ 4) (h0 : iv c 1 = nI n) : ∀ (m q : Nat) (x : Int32), q + m = n → run X (call X xT (d + 1)) false 1 xc193 4 [some (.inr (.inr (some a))), some (.inl x), some (.inl (nI q))] [] (S, iv, lv) = some (some (.inl (armsV (iv c) m q x)), (S, iv, lv)) := by
  intro m
  induction m with
  | zero =>
    intro q x hq
    rw [sg193_4, sc_ld h (by omega), h0, if_pos (nI_le (by omega) (by omega))]
    rfl
  | succ m ih =>
    intro q x hq
    rw [sg193_4, sc_ld h (by omega), h0, if_neg (nI_ge (show q < n by omega) (by omega)), objR_ok h.1 rfl, c_get0 h (by omega), bI_some, sg193_22, nI_add, ih (q + 1) _ (by omega)]
    rfl
theorem c_arms {X : XE} {d : Nat} {S : List XC} {iv : Nat → Nat → Int32} {lv : Nat → Nat → Int64} {a c : Nat} (h : scell S a c) {n : Nat} (hn : n ≤ 4) (h0 : iv c 1 = nI n) : call X xT (d + 2) 193 [.inr (.inr (some a))] (S, iv, lv) = some (some (.inl (armsV (iv c) n 0 (nI 0))), (S, iv, lv)) := by
  rw [tr193]
  exact c_arms_loop h hn h0 n 0 _ (by omega)
/-- a day: hungers of m provinces from q on -/
def growF (cl : Nat → CL) (n : Nat) : Nat → Nat → (Nat → Int32) → (Nat → Int32)
  | 0, _, f => f
  | m + 1, q, f => growF cl n m (q + 1) (pu f (5 + q) (near (nI 9) (f (5 + q) + growV f cl n q)))
def payF (cl : Nat → CL) (n : Nat) : Nat → Nat → (Nat → Int32) → (Nat → Int32)
  | 0, _, f => f
  | m + 1, q, f => payF cl n m (q + 1) (pu f (27 + q) (near (nI 99) (f (27 + q) + wageV f cl n q)))
def dayF (cl : Nat → CL) (n np nt : Nat) (f : Nat → Int32) : Nat → Int32 := pu (payF cl n nt 0 (growF cl n np 0 f)) 2 (near (nI 999) (payF cl n nt 0 (growF cl n np 0 f) 2 + nI 1))
theorem growF_off (cl : Nat → CL) (n : Nat) : ∀ (m q : Nat) (f : Nat → Int32) (j : Nat), (j < 5 + q ∨ 5 + q + m ≤ j) → growF cl n m q f j = f j := by
  intro m
  induction m with
  | zero => intro q f j _; rfl
  | succ m ih => intro q f j hj; simp only [growF]; rw [ih _ _ _ (by omega), pu_n _ _ _ (by omega)]
theorem payF_off (cl : Nat → CL) (n : Nat) : ∀ (m q : Nat) (f : Nat → Int32) (j : Nat), (j < 27 + q ∨ 27 + q + m ≤ j) → payF cl n m q f j = f j := by
  intro m
  induction m with
  | zero => intro q f j _; rfl
  | succ m ih => intro q f j hj; simp only [payF]; rw [ih _ _ _ (by omega), pu_n _ _ _ (by omega)]
theorem c_day_grow (X : XE) (d : Nat) (im lw : List (Option Nat)) (tl : List XC) {a c : Nat} (hs : scell (SS im lw tl) a c) (hc : c < 79) (hc2 : c ≠ 20) {r : Option Nat} {cl : Nat → CL} {n np : Nat} (hn : np ≤ 6) : ∀ (m q : Nat) (iv : Nat → Nat → Int32) (lv : Nat → Nat → Int64), q + m = np → iv c 0 = nI np → lawT (SS im lw tl) iv r cl n → ∃ iv' lv', run X (call X xT (d + 4)) false 0 xc117 2 [some (.inr (.inr (some 17))), some (.inr (.inr (some a))), some (.inr (.inr r)), some (.inl (nI q))] [] (SS im lw tl, iv, lv) = run X (call X xT (d + 4)) false 0 xc117 33 [some (.inr (.inr (some 17))), some (.inr (.inr (some a))), some (.inr (.inr r)), some (.inl (nI 0))] [] (SS im lw tl, iv', lv') ∧ iv' c = growF cl n m q (iv c) ∧ fr [c, 20, 18] iv iv' ∧ agL lv lv' := by
  have hL : ∀ x, x ∈ [c, 20, 18] → x < 79 := by intro x hx; simp at hx; omega
  intro m
  induction m with
  | zero =>
    intro q iv lv hq h0 hl
    refine ⟨iv, lv, ?_, rfl, fr.rf, agL.rf⟩
    rw [sg117_2, objR_ok hs.1 rfl, c_prov0 (d := d + 3) hs, bI_some, sg117_7, h0, if_pos (nI_le (by omega) (by omega))]
  | succ m ih =>
    intro q iv lv hq h0 hl
    obtain ⟨iv1, lv1, g1, g2, g3⟩ := c_growth X d im lw tl iv lv hs hc2 hl.S (p := q) (by omega)
    have e1 : iv1 c = iv c := agC_c hs hc2 g2
    have f1 : fr [c, 20, 18] iv (upr iv1 c (pu (iv1 c) (5 + q) (near (nI 9) (iv1 c (5 + q) + growV (iv c) cl n q)))) := (g2.fr (by simp) (by simp)).tr (fr_upr _ _ (by simp))
    obtain ⟨iv', lv', k1, k2, k3, k4⟩ := ih (q + 1) (upr iv1 c (pu (iv1 c) (5 + q) (near (nI 9) (iv1 c (5 + q) + growV (iv c) cl n q)))) lv1 (by omega) (by rw [upr_self, pu_n _ _ _ (by omega), e1]; exact h0) (hl.fr hL f1)
    refine ⟨iv', lv', ?_, ?_, f1.tr k3, g3.tr k4⟩
    · rw [sg117_2, objR_ok hs.1 rfl, c_prov0 (d := d + 3) hs, bI_some, sg117_7, h0, if_neg (nI_ge (show q < np by omega) (by omega)), g1, bI_some, sg117_20, objR_ok hs.1 rfl, c_change (d := d + 2) hs (by omega), bV_some, sg117_25, nI_add]
      exact k1
    · rw [k2, upr_self, e1]; rfl
theorem c_day_pay (X : XE) (d : Nat) (im lw : List (Option Nat)) (tl : List XC) {a c : Nat} (hs : scell (SS im lw tl) a c) (hc : c < 79) (hc2 : c ≠ 20) {r : Option Nat} {cl : Nat → CL} {n nt : Nat} (hn : nt ≤ 4) : ∀ (m q : Nat) (iv : Nat → Nat → Int32) (lv : Nat → Nat → Int64), q + m = nt → iv c 1 = nI nt → lawT (SS im lw tl) iv r cl n → ∃ iv' lv', run X (call X xT (d + 4)) false 0 xc117 33 [some (.inr (.inr (some 17))), some (.inr (.inr (some a))), some (.inr (.inr r)), some (.inl (nI q))] [] (SS im lw tl, iv, lv) = some (none, (SS im lw tl, iv', lv')) ∧ iv' c = pu (payF cl n m q (iv c)) 2 (near (nI 999) (payF cl n m q (iv c) 2 + nI 1)) ∧ fr [c, 20, 18] iv iv' ∧ agL lv lv' := by
  have hL : ∀ x, x ∈ [c, 20, 18] → x < 79 := by intro x hx; simp at hx; omega
  intro m
  induction m with
  | zero =>
    intro q iv lv hq h0 hl
    refine ⟨_, lv, ?_, ?_, fr_upr (a := c) iv (pu (iv c) (2 + 0) (near (nI 999) (iv c (2 + 0) + nI 1))) (by simp), agL.rf⟩
    · rw [sg117_33, objR_ok hs.1 rfl, c_tam0 (d := d + 3) hs, bI_some, sg117_38, h0, if_pos (nI_le (by omega) (by omega)), objR_ok hs.1 rfl, c_change (d := d + 2) hs (by omega), bV_some, sg117_73]
    · rw [upr_self]; rfl
  | succ m ih =>
    intro q iv lv hq h0 hl
    obtain ⟨iv1, lv1, g1, g2, g3⟩ := c_wage X d im lw tl iv lv hs hc2 hl.S (t := q) (by omega)
    have e1 : iv1 c = iv c := agC_c hs hc2 g2
    have f1 : fr [c, 20, 18] iv (upr iv1 c (pu (iv1 c) (27 + q) (near (nI 99) (iv1 c (27 + q) + wageV (iv c) cl n q)))) := (g2.fr (by simp) (by simp)).tr (fr_upr _ _ (by simp))
    obtain ⟨iv', lv', k1, k2, k3, k4⟩ := ih (q + 1) (upr iv1 c (pu (iv1 c) (27 + q) (near (nI 99) (iv1 c (27 + q) + wageV (iv c) cl n q)))) lv1 (by omega) (by rw [upr_self, pu_n _ _ _ (by omega), e1]; exact h0) (hl.fr hL f1)
    refine ⟨iv', lv', ?_, ?_, f1.tr k3, g3.tr k4⟩
    · rw [sg117_33, objR_ok hs.1 rfl, c_tam0 (d := d + 3) hs, bI_some, sg117_38, h0, if_neg (nI_ge (show q < nt by omega) (by omega)), g1, bI_some, sg117_52, objR_ok hs.1 rfl, c_change (d := d + 2) hs (by omega), bV_some, sg117_57, nI_add]
      exact k1
    · rw [k2, upr_self, e1]; rfl
/-- Rules.nextDay -/
theorem c_nextDay (X : XE) (d : Nat) (im lw : List (Option Nat)) (tl : List XC) (iv : Nat → Nat → Int32) (lv : Nat → Nat → Int64) {a c : Nat} (hs : scell (SS im lw tl) a c) (hc : c < 79) (hc2 : c ≠ 20) {r : Option Nat} {cl : Nat → CL} {n np nt : Nat} (hn : np ≤ 6) (hn2 : nt ≤ 4) (h0 : iv c 0 = nI np) (h1 : iv c 1 = nI nt) (hl : lawT (SS im lw tl) iv r cl n) : ∃ iv' lv', call X xT (d + 5) 117 [.inr (.inr (some 17)), .inr (.inr (some a)), .inr (.inr r)] (SS im lw tl, iv, lv) = some (none, (SS im lw tl, iv', lv')) ∧ iv' c = dayF cl n np nt (iv c) ∧ fr [c, 20, 18] iv iv' ∧ agL lv lv' := by
  have hL : ∀ x, x ∈ [c, 20, 18] → x < 79 := by intro x hx; simp at hx; omega
  obtain ⟨iv1, lv1, g1, g2, g3, g4⟩ := c_day_grow X d im lw tl hs hc hc2 hn np 0 iv lv (by omega) h0 hl
  obtain ⟨iv2, lv2, k1, k2, k3, k4⟩ := c_day_pay X d im lw tl hs hc hc2 hn2 nt 0 iv1 lv1 (by omega) (by rw [g2, growF_off _ _ _ _ _ _ (by omega)]; exact h1) (hl.fr hL g3)
  refine ⟨iv2, lv2, ?_, ?_, g3.tr k3, g4.tr k4⟩
  · rw [tr117, g1, k1]
  · rw [k2, g2]; rfl
