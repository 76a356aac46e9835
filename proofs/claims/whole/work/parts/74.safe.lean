/-! calls: safe -/
def nxt (x y : Int64) (g : Nat → Int64) (j : Nat) : Int64 := g j * x / lN 10 + (if j = 0 then lN 0 else g (j - 1) * y / lN 10)
def safG (x y : Int64) : Nat → (Nat → Int64) → (Nat → Int64)
  | 0, g => g
  | n + 1, g => safG x y n (nxt x y g)
def sumG (g : Nat → Int64) : Nat → Nat → Int64 → Int64
  | 0, _, s => s
  | m + 1, j, s => sumG g m (j + 1) (s + g j)
def eqK (k : Nat) (g g' : Nat → Int64) : Prop := ∀ j, j < k → g j = g' j
theorem nxt_eq {k : Nat} {g g' : Nat → Int64} (x y : Int64) (h : eqK k g g') : eqK k (nxt x y g) (nxt x y g') := fun j hj => by
  unfold nxt
  rw [h j hj]
  split
  · rfl
  · rw [h (j - 1) (by omega)]
theorem safG_eq (x y : Int64) {k : Nat} : ∀ (n : Nat) {g g' : Nat → Int64}, eqK k g g' → eqK k (safG x y n g) (safG x y n g') := by
  intro n
  induction n with
  | zero => intro g g' h; exact h
  | succ n ih => intro g g' h; exact ih (nxt_eq x y h)
theorem sumG_eq {k : Nat} {g g' : Nat → Int64} (h : eqK k g g') : ∀ (m j : Nat) (s : Int64), j + m ≤ k → sumG g m j s = sumG g' m j s := by
  intro m
  induction m with
  | zero => intro j s _; rfl
  | succ m ih => intro j s hj; simp only [sumG]; rw [h j (by omega), ih _ _ (by omega)]
def g0 : Nat → Int64 := fun j => if j = 0 then lN 1000000000000 else lN 0
def safV (f : Sc) (k n : Nat) : Int64 := sumG (safG (nI 10 - f 3).toInt64 (f 3).toInt64 n g0) k 0 (lN 0)
theorem l10 : ¬ lN 10 = 0 := by decide
theorem ladd0 (x : Int64) : x + lN 0 = x := Int64.add_zero x
/-- the class -/
theorem c_fillL (X : XE) (d : Nat) (im lw : List (Option Nat)) (tl : List XC) (iv : Nat → Nat → Int32) : ∀ (m j : Nat) (lv : Nat → Nat → Int64), j + m = 20 → ∃ g, run X (call X xT d) false 0 xc182 6 [some (.inr (.inr (some 43))), some (.inr (.inl (lN 0))), none, some (.inl (nI j)), some (.inl (nI 20))] [] (SS im lw tl, iv, lv) = some (none, (SS im lw tl, iv, upr lv 43 g)) ∧ (∀ x, j ≤ x → x < 20 → g x = lN 0) ∧ (∀ x, x < j → g x = lv 43 x) := by
  intro m
  induction m with
  | zero =>
    intro j lv hj
    rw [sg182_6, if_pos (nI_le (by omega) (by omega))]
    exact ⟨lv 43, by rw [upr_id], fun x _ _ => by omega, fun _ _ => rfl⟩
  | succ m ih =>
    intro j lv hj
    rw [sg182_6, if_neg (nI_ge (show j < 20 by omega) (by omega)), arr_ok (S := SS im lw tl) (a := 43) (c := (51, 20, [])) rfl rfl (inb_nI (by show j < 20; omega) (by omega)), nI_clamp (by omega), nI_add]
    obtain ⟨g, g1, g2, g3⟩ := ih (j + 1) (upd2 lv 43 j (lN 0)) (by omega)
    refine ⟨g, by rw [g1, upd2_as, upr_upr], fun x h1 h2 => ?_, fun x hx => ?_⟩
    · by_cases e : x = j
      · subst e; rw [g3 _ (by omega), upd2_self]
      · exact g2 x (by omega) h2
    · rw [g3 x (by omega), upd2_ne _ _ _ _ (by omega)]
theorem c_safe_in (X : XE) (cl : XCl) (im lw : List (Option Nat)) (tl : List XC) (iv : Nat → Nat → Int32) (lv : Nat → Nat → Int64) (th v2 v4 : Int32) {k : Nat} (hk : k ≤ 20) (G : Nat → Int64) : ∀ (m : Nat) (g : Nat → Int64) (w6 : Option XV), m ≤ k → (∀ j, j < m → g j = G j) → (∀ j, m ≤ j → j < k → g j = nxt (nI 10 - th).toInt64 th.toInt64 G j) → ∃ (g' : Nat → Int64) (w5 w6' : Option XV), run X cl false 2 xc181 68 [some (.inr (.inr (some 0))), some (.inl (nI k)), some (.inl v2), some (.inl th), some (.inl v4), some (.inl (nI m + (-1))), w6, none] [] (SS im lw tl, iv, upr lv 43 g) = run X cl false 2 xc181 57 [some (.inr (.inr (some 0))), some (.inl (nI k)), some (.inl v2), some (.inl th), some (.inl (v4 + nI 1)), w5, w6', none] [] (SS im lw tl, iv, upr lv 43 g') ∧ eqK k g' (nxt (nI 10 - th).toInt64 th.toInt64 G) := by
  intro m
  induction m with
  | zero =>
    intro g w6 hm h1 h2
    rw [sg181_68, if_pos (by decide)]
    exact ⟨g, _, _, rfl, fun j hj => h2 j (by omega) hj⟩
  | succ m ih =>
    intro g w6 hm h1 h2
    rw [sg181_68, pk_m1, if_neg (nI_pos (by omega)), if_pos (inb_nI (show m < 20 by omega) (by omega)), if_pos (inb_nI (show m < 20 by omega) (by omega)), nI_clamp (by omega), upr_self]
    by_cases c : m = 0
    · rw [if_pos (by rw [c]; exact nI0_eq0), upd2_upr, h1 m (by omega)]
      refine ih _ _ (by omega) (fun j hj => by omega) (fun j hj1 hj2 => ?_)
      by_cases e : j = m
      · subst e; rw [pu_s, nxt, if_pos c]
      · rw [pu_n _ _ _ e]; exact h2 j (by omega) hj2
    · rw [if_neg (nI_ne0 (by omega) (by omega)), show nI m - nI 1 = nI (m - 1) by rw [pk_sub (by omega)], if_pos (inb_nI (show m - 1 < 20 by omega) (by omega)), if_pos (inb_nI (show m < 20 by omega) (by omega)), if_pos (inb_nI (show m < 20 by omega) (by omega)), nI_clamp (by omega), upd2_upr, h1 m (by omega), h1 (m - 1) (by omega)]
      refine ih _ _ (by omega) (fun j hj => by rw [pu_n _ _ _ (by omega)]; exact h1 j (by omega)) (fun j hj1 hj2 => ?_)
      by_cases e : j = m
      · subst e; rw [pu_s, nxt, if_neg c]
      · rw [pu_n _ _ _ e]; exact h2 j (by omega) hj2
theorem c_safe_sum (X : XE) (cl : XCl) (im lw : List (Option Nat)) (tl : List XC) (iv : Nat → Nat → Int32) (lv : Nat → Nat → Int64) (v2 v3 : Int32) {k : Nat} (hk : k ≤ 20) : ∀ (m j : Nat) (s : Int64), j + m = k → run X cl false 2 xc181 145 [some (.inr (.inr (some 0))), some (.inl (nI k)), some (.inl v2), some (.inl v3), some (.inr (.inl s)), none, some (.inl (nI j)), none] [] (SS im lw tl, iv, lv) = some (some (.inr (.inl (sumG (lv 43) m j s))), (SS im lw tl, iv, lv)) := by
  intro m
  induction m with
  | zero =>
    intro j s hj
    rw [sg181_145, if_pos (nI_le (by omega) (by omega))]
    rfl
  | succ m ih =>
    intro j s hj
    rw [sg181_145, if_neg (nI_ge (show j < k by omega) (by omega)), if_pos (inb_nI (by omega) (by omega)), nI_clamp (by omega), nI_add, ih (j + 1) _ (by omega)]
    rfl
theorem c_safe_days (X : XE) (cl : XCl) (im lw : List (Option Nat)) (tl : List XC) (iv : Nat → Nat → Int32) (lv : Nat → Nat → Int64) (th : Int32) {k n : Nat} (hk : k ≤ 20) (hn : n ≤ 99) : ∀ (m q : Nat) (g G : Nat → Int64) (w5 w6 : Option XV), q + m = n → eqK k g G → ∃ lv', run X cl false 2 xc181 57 [some (.inr (.inr (some 0))), some (.inl (nI k)), some (.inl (nI n)), some (.inl th), some (.inl (nI q)), w5, w6, none] [] (SS im lw tl, iv, upr lv 43 g) = some (some (.inr (.inl (sumG (safG (nI 10 - th).toInt64 th.toInt64 m G) k 0 (lN 0)))), (SS im lw tl, iv, lv')) ∧ (∀ a, a ≠ 43 → lv' a = lv a) := by
  intro m
  induction m with
  | zero =>
    intro q g G w5 w6 hq he
    rw [sg181_57, if_pos (nI_le (by omega) (by omega)), c_safe_sum X cl im lw tl iv _ _ _ hk k 0 _ (by omega), upr_self, sumG_eq he _ _ _ (by omega)]
    exact ⟨_, rfl, fun a ha => upr_off _ _ _ ha⟩
  | succ m ih =>
    intro q g G w5 w6 hq he
    rw [sg181_57, if_neg (nI_ge (show q < n by omega) (by omega)), m1eq]
    obtain ⟨g', w5', w6', e1, e2⟩ := c_safe_in X cl im lw tl iv lv th (nI n) (nI q) hk g k g w6 (Nat.le_refl _) (fun _ _ => rfl) (fun j h1 h2 => by omega)
    rw [e1, nI_add]
    exact ih (q + 1) g' (nxt (nI 10 - th).toInt64 th.toInt64 G) _ _ (by omega) (fun j hj => (e2 j hj).trans (nxt_eq _ _ he j hj))
/-- the reference -/
theorem m_safe_in (X : XE) (cl : XCl) (im lw : List (Option Nat)) (tl : List XC) (iv : Nat → Nat → Int32) (lv : Nat → Nat → Int64) (th v2 v4 : Int32) {k : Nat} (hk : k ≤ 20) (G : Nat → Int64) : ∀ (m : Nat) (g : Nat → Int64) (w6 : Option XV), m ≤ k → (∀ j, j < m → g j = G j) → (∀ j, m ≤ j → j < k → g j = if j = m then G j * (nI 10 - th).toInt64 / lN 10 else nxt (nI 10 - th).toInt64 th.toInt64 G j) → ∃ (g' : Nat → Int64) (w5 w6' : Option XV), run X cl false 2 xc306 85 [some (.inr (.inr (some 46))), some (.inl (nI k)), some (.inl v2), some (.inl th), some (.inl v4), some (.inl (nI m + (-1))), w6, none] [] (SS im lw tl, iv, upr lv 75 g) = run X cl false 2 xc306 74 [some (.inr (.inr (some 46))), some (.inl (nI k)), some (.inl v2), some (.inl th), some (.inl (v4 + nI 1)), w5, w6', none] [] (SS im lw tl, iv, upr lv 75 g') ∧ eqK k g' (nxt (nI 10 - th).toInt64 th.toInt64 G) := by
  intro m
  induction m with
  | zero =>
    intro g w6 hm h1 h2
    rw [sg306_85, if_pos (by decide)]
    refine ⟨g, _, _, rfl, fun j hj => ?_⟩
    rw [h2 j (by omega) hj]
    split
    · rename_i e; subst e; rw [nxt, if_pos rfl, ladd0]
    · rfl
  | succ m ih =>
    intro g w6 hm h1 h2
    rw [sg306_85, pk_m1, if_neg (nI_pos (by omega)), nI_add, if_pos (inb_nI (show m < 21 by omega) (by omega)), if_pos (inb_nI (show m < 21 by omega) (by omega)), if_pos (inb_nI (show m + 1 < 21 by omega) (by omega)), if_pos (inb_nI (show m + 1 < 21 by omega) (by omega)), nI_clamp (by omega), nI_clamp (by omega), upr_self, upd2_upr, upr_self, upd2_upr, pu_n _ _ _ (show m + 1 ≠ m by omega), h1 m (by omega)]
    refine ih _ _ (by omega) (fun j hj => by rw [pu_n _ _ _ (by omega), pu_n _ _ _ (by omega)]; exact h1 j (by omega)) (fun j hj1 hj2 => ?_)
    by_cases e : j = m
    · subst e; rw [pu_n _ _ _ (by omega), pu_s, if_pos rfl]
    · rw [if_neg e]
      by_cases e2 : j = m + 1
      · subst e2
        rw [pu_s, h2 (m + 1) (by omega) hj2, if_pos rfl, nxt, if_neg (by omega)]
        rfl
      · rw [pu_n _ _ _ e2, pu_n _ _ _ e, h2 j (by omega) hj2, if_neg e2]
theorem m_safe_sum (X : XE) (cl : XCl) (im lw : List (Option Nat)) (tl : List XC) (iv : Nat → Nat → Int32) (lv : Nat → Nat → Int64) (v2 v3 : Int32) {k : Nat} (hk : k ≤ 20) : ∀ (m j : Nat) (s : Int64), j + m = k → run X cl false 2 xc306 157 [some (.inr (.inr (some 46))), some (.inl (nI k)), some (.inl v2), some (.inl v3), some (.inr (.inl s)), none, some (.inl (nI j)), none] [] (SS im lw tl, iv, lv) = some (some (.inr (.inl (sumG (lv 75) m j s))), (SS im lw tl, iv, lv)) := by
  intro m
  induction m with
  | zero =>
    intro j s hj
    rw [sg306_157, if_pos (nI_le (by omega) (by omega))]
    rfl
  | succ m ih =>
    intro j s hj
    rw [sg306_157, if_neg (nI_ge (show j < k by omega) (by omega)), if_pos (inb_nI (by omega) (by omega)), nI_clamp (by omega), nI_add, ih (j + 1) _ (by omega)]
    rfl
theorem m_safe_days (X : XE) (cl : XCl) (im lw : List (Option Nat)) (tl : List XC) (iv : Nat → Nat → Int32) (lv : Nat → Nat → Int64) (th : Int32) {k n : Nat} (hk : k ≤ 20) (hn : n ≤ 99) : ∀ (m q : Nat) (g G : Nat → Int64) (w5 w6 : Option XV), q + m = n → eqK k g G → ∃ lv', run X cl false 2 xc306 74 [some (.inr (.inr (some 46))), some (.inl (nI k)), some (.inl (nI n)), some (.inl th), some (.inl (nI q)), w5, w6, none] [] (SS im lw tl, iv, upr lv 75 g) = some (some (.inr (.inl (sumG (safG (nI 10 - th).toInt64 th.toInt64 m G) k 0 (lN 0)))), (SS im lw tl, iv, lv')) ∧ (∀ a, a ≠ 75 → lv' a = lv a) := by
  intro m
  induction m with
  | zero =>
    intro q g G w5 w6 hq he
    rw [sg306_74, if_pos (nI_le (by omega) (by omega)), m_safe_sum X cl im lw tl iv _ _ _ hk k 0 _ (by omega), upr_self, sumG_eq he _ _ _ (by omega)]
    exact ⟨_, rfl, fun a ha => upr_off _ _ _ ha⟩
  | succ m ih =>
    intro q g G w5 w6 hq he
    rw [sg306_74, if_neg (nI_ge (show q < n by omega) (by omega)), m1eq]
    obtain ⟨g', w5', w6', e1, e2⟩ := m_safe_in X cl im lw tl iv lv th (nI n) (nI q) hk g k g w6 (Nat.le_refl _) (fun _ _ => rfl) (fun j h1 h2 => by omega)
    rw [e1, nI_add]
    exact ih (q + 1) g' (nxt (nI 10 - th).toInt64 th.toInt64 G) _ _ (by omega) (fun j hj => (e2 j hj).trans (nxt_eq _ _ he j hj))
theorem m_fillL (X : XE) (cl : XCl) (im lw : List (Option Nat)) (tl : List XC) (iv : Nat → Nat → Int32) (v1 v2 : Int32) : ∀ (m j : Nat) (lv : Nat → Nat → Int64), j + m = 21 → ∃ g, run X cl false 2 xc306 35 [some (.inr (.inr (some 46))), some (.inl v1), some (.inl v2), some (.inl (nI j)), none, none, none, none] [] (SS im lw tl, iv, lv) = run X cl false 2 xc306 35 [some (.inr (.inr (some 46))), some (.inl v1), some (.inl v2), some (.inl (nI 21)), none, none, none, none] [] (SS im lw tl, iv, upr lv 75 g) ∧ (∀ x, j ≤ x → x < 21 → g x = lN 0) ∧ (∀ x, x < j → g x = lv 75 x) := by
  intro m
  induction m with
  | zero =>
    intro j lv hj
    rw [show j = 21 by omega]
    exact ⟨lv 75, by rw [upr_id], fun x _ _ => by omega, fun _ _ => rfl⟩
  | succ m ih =>
    intro j lv hj
    rw [sg306_35, if_neg (nI_ge (show j < 21 by omega) (by omega)), if_pos (inb_nI (by omega) (by omega)), nI_clamp (by omega), nI_add]
    obtain ⟨g, g1, g2, g3⟩ := ih (j + 1) (upd2 lv 75 j (lN 0)) (by omega)
    refine ⟨g, by rw [g1, upd2_as, upr_upr], fun x h1 h2 => ?_, fun x hx => ?_⟩
    · by_cases e : x = j
      · subst e; rw [g3 _ (by omega), upd2_self]
      · exact g2 x (by omega) h2
    · rw [g3 x (by omega), upd2_ne _ _ _ _ (by omega)]
def kOK (k : Int32) : Bool := decide (¬ k < nI 1 ∧ ¬ nI 20 < k)
theorem kOK_of {k : Int32} (h : kOK k = true) : ∃ m, 1 ≤ m ∧ m ≤ 20 ∧ k = nI m := by
  have h := of_decide_eq_true h
  obtain ⟨j, hj, e⟩ := nI_of (x := k) (fun q => h.1 (by rw [fb_lt] at q ⊢; rw [nI_toInt (by decide)]; rw [show (0 : Int32).toInt = 0 by decide] at q; omega))
  rw [e] at h
  exact ⟨j, by rcases Nat.lt_or_ge j 1 with q | q; exact absurd (nI_lt q (by omega)) h.1; exact q, by rcases Nat.lt_or_ge 20 j with q | q; exact absurd (nI_lt q hj) h.2; exact q, e⟩
theorem kOK_in (k : Int32) : decide (lN 1 ≤ k.toInt64 ∧ k.toInt64 ≤ lN 20) = kOK k := by
  unfold kOK
  refine decide_eq_decide.mpr ?_
  rw [fb_le64, fb_le64, fb_lt, fb_lt, Int32.toInt_toInt64, lN_toInt (by decide), lN_toInt (by decide), nI_toInt (by decide), nI_toInt (by decide)]
  omega
def safA (k n : Int32) (A : St) : Int64 := if kOK k = true then (if inV n (nI 99) = true then safV A.1.1 k.toNatClampNeg n.toNatClampNeg else lN 18446744073709551615) else lN 18446744073709551615
theorem S_safe (k n : Int32) : stepOK 181 306 [.inl k, .inl n] := by
  intro X hX d im lw tl iv lv A h hlen
  obtain ⟨h1, h2, ho⟩ := h
  obtain ⟨p0, p1, t0, t1, hk⟩ := cfacts h1 ho
  have hc : ∃ lv', call X xT (d + 40) 181 [.inr (.inr (some 0)), .inl k, .inl n] (SS im lw tl, iv, lv) = some (some (.inr (.inl (safA k n A))), (SS im lw tl, iv, lv')) ∧ (∀ a, a ≠ 43 → lv' a = lv a) := by
    unfold safA
    rw [tr181]
    by_cases c : kOK k = true
    · rw [if_pos c]
      have c2 := of_decide_eq_true c
      rw [if_neg c2.1, if_neg c2.2, c_within X (d + 38), bI_some, sg181_17, b2i_ite]
      by_cases cn : inV n (nI 99) = true
      · rw [if_pos cn, if_pos cn]
        obtain ⟨a, a1, a2, rfl⟩ := kOK_of c
        obtain ⟨b, b1, rfl⟩ := inV_of (by decide) cn
        obtain ⟨g, q1, q2, -⟩ := c_fillL X (d + 38) im lw tl iv 20 0 lv (by omega)
        rw [nI_clamp (by omega), nI_clamp (by omega), c_get0 (sc2 im lw tl) (x := 2) (y := 1) (by omega), bI_some, sg181_36, tr182, alen_ok X (S := SS im lw tl) (a := 43) (c := (51, 20, [])) (by decide) rfl (by decide), q1, bV_some, sg181_45, upd2_upr, h1.eq 3 (by omega)]
        exact c_safe_days X _ im lw tl iv lv (A.1.1 3) a2 b1 b 0 (pu g 0 (lN 1000000000000)) g0 none none (by omega) (fun j hj => by
          unfold g0
          by_cases e : j = 0
          · subst e; rw [pu_s, if_pos rfl]
          · rw [pu_n _ _ _ e, if_neg e]; exact q2 j (by omega) (by omega))
      · rw [if_neg cn, if_neg cn]
        exact ⟨lv, rfl, fun _ _ => rfl⟩
    · rw [if_neg c]
      refine ⟨lv, ?_, fun _ _ => rfl⟩
      by_cases q : k < nI 1
      · rw [if_pos q]
      · rw [if_neg q, if_pos (Decidable.not_not.mp (fun q2 => c (decide_eq_true ⟨q, q2⟩)))]
  obtain ⟨lv1, hc1, hc2⟩ := hc
  have h2' : RelM A iv lv1 := h2.mid midI.rf (fun a ha _ => hc2 a (by omega))
  have h0 := h2'.thr (nI 0)
  obtain ⟨p0', -, -, -, -, he, -, -⟩ := mfacts h0 ho
  have hm : ∃ lv', call X xT (d + 40) 306 [.inr (.inr (some 46)), .inl k, .inl n] (SS im lw tl, iv, lv1) = some (some (.inr (.inl (safA k n A))), (SS im lw tl, upd2 iv 46 0 (nI 0), lv')) ∧ (∀ a, a ≠ 75 → lv' a = lv1 a) := by
    unfold safA
    rw [tr306, m_in X (d + 38), bI_some, sg306_14, b2i_ite, kOK_in]
    by_cases c : kOK k = true
    · rw [if_pos c, if_pos c, m_in X (d + 38), bI_some, sg306_26, b2i_ite, in_inV n (top := 99) (by decide)]
      by_cases cn : inV n (nI 99) = true
      · rw [if_pos cn, if_pos cn]
        obtain ⟨a, a1, a2, rfl⟩ := kOK_of c
        obtain ⟨b, b1, rfl⟩ := inV_of (by decide) cn
        obtain ⟨g, q1, q2, -⟩ := m_fillL X (call X xT (d + 39)) im lw tl (upd2 iv 46 0 (nI 0)) (nI a) (nI b) 21 0 lv1 (by omega)
        rw [nI_clamp (by omega), nI_clamp (by omega), q1, sg306_35, if_pos (by decide), upd2_upr, show (upd2 iv 46 0 (nI 0)) 48 6 = A.1.1 3 from (he 3 (by omega)).symm]
        exact m_safe_days X _ im lw tl _ lv1 (A.1.1 3) a2 b1 b 0 (pu g 0 (lN 1000000000000)) g0 none none (by omega) (fun j hj => by
          unfold g0
          by_cases e : j = 0
          · subst e; rw [pu_s, if_pos rfl]
          · rw [pu_n _ _ _ e, if_neg e]; exact q2 j (by omega) (by omega))
      · rw [if_neg cn, if_neg cn]
        exact ⟨lv1, rfl, fun _ _ => rfl⟩
    · rw [if_neg c, if_neg c]
      exact ⟨lv1, rfl, fun _ _ => rfl⟩
  obtain ⟨lv2, hm1, hm2⟩ := hm
  refine ⟨_, _, im, lw, tl, upd2 iv 46 0 (nI 0), lv2, A, hc1, hm1, ⟨h1.out (out0 iv), ?_, ho⟩, by omega, by omega⟩
  exact h0.fr (fun _ _ _ => rfl) (h0.c.ag (fun a ha => hm2 a (by simp at ha; omega)))
