/-! acts of the reference -/
theorem m_shift1 (X : XE) (d : Nat) (im lw : List (Option Nat)) (tl : List XC) (lv : Nat → Nat → Int64) (v1 : Int32) : ∀ (m i : Nat) (iv : Nat → Nat → Int32), i + m = 795 → ∃ g, run X (call X xT d) false 0 xc267 11 [some (.inr (.inr (some 46))), some (.inl v1), some (.inl (nI i))] [] (SS im lw tl, iv, lv) = run X (call X xT d) false 0 xc267 41 [some (.inr (.inr (some 46))), some (.inl v1), some (.inl (nI 0))] [] (SS im lw tl, upr iv 51 g, lv) ∧ (∀ x, i ≤ x → x < 795 → g x = iv 51 (x + 53)) ∧ (∀ x, (x < i ∨ 795 ≤ x) → g x = iv 51 x) := by
  intro m
  induction m with
  | zero =>
    intro i iv hi
    rw [sg267_11, if_pos (nI_le (by omega) (by omega))]
    exact ⟨iv 51, by rw [upr_id], fun x _ _ => by omega, fun _ _ => rfl⟩
  | succ m ih =>
    intro i iv hi
    rw [sg267_11, if_neg (nI_ge (show i < 795 by omega) (by omega)), nI_add, if_pos (inb_nI (by omega) (by omega)), if_pos (inb_nI (by omega) (by omega)), nI_clamp (by omega), nI_clamp (by omega), nI_add]
    obtain ⟨g, g1, g2, g3⟩ := ih (i + 1) (upd2 iv 51 i (iv 51 (i + 53))) (by omega)
    refine ⟨g, ?_, fun x h1 h2 => ?_, fun x hx => ?_⟩
    · rw [g1, upd2_as, upr_upr]
    · by_cases e : x = i
      · subst e; rw [g3 _ (by omega), upd2_self]
      · rw [g2 x (by omega) h2, upd2_ne _ _ _ _ (by omega)]
    · rw [g3 x (by omega), upd2_ne _ _ _ _ (by omega)]
theorem m_shift2 (X : XE) (d : Nat) (im lw : List (Option Nat)) (tl : List XC) (lv : Nat → Nat → Int64) (v1 : Int32) : ∀ (m i : Nat) (iv : Nat → Nat → Int32), i + m = 15 → ∃ g, run X (call X xT d) false 0 xc267 41 [some (.inr (.inr (some 46))), some (.inl v1), some (.inl (nI i))] [] (SS im lw tl, iv, lv) = run X (call X xT d) false 0 xc267 41 [some (.inr (.inr (some 46))), some (.inl v1), some (.inl (nI 15))] [] (SS im lw tl, upr iv 52 g, lv) ∧ (∀ x, i ≤ x → x < 15 → g x = iv 52 (x + 1)) ∧ (∀ x, (x < i ∨ 15 ≤ x) → g x = iv 52 x) := by
  intro m
  induction m with
  | zero =>
    intro i iv hi
    rw [show i = 15 by omega]
    exact ⟨iv 52, by rw [upr_id], fun x _ _ => by omega, fun _ _ => rfl⟩
  | succ m ih =>
    intro i iv hi
    rw [sg267_41, if_neg (nI_ge (show i < 15 by omega) (by omega)), nI_add, if_pos (inb_nI (by omega) (by omega)), if_pos (inb_nI (by omega) (by omega)), nI_clamp (by omega), nI_clamp (by omega)]
    obtain ⟨g, g1, g2, g3⟩ := ih (i + 1) (upd2 iv 52 i (iv 52 (i + 1))) (by omega)
    refine ⟨g, ?_, fun x h1 h2 => ?_, fun x hx => ?_⟩
    · rw [g1, upd2_as, upr_upr]
    · by_cases e : x = i
      · subst e; rw [g3 _ (by omega), upd2_self]
      · rw [g2 x (by omega) h2, upd2_ne _ _ _ _ (by omega)]
    · rw [g3 x (by omega), upd2_ne _ _ _ _ (by omega)]
/-- the undo cells alone -/
theorem RelM.un {A : St} {iv iv' : Nat → Nat → Int32} {lv : Nat → Nat → Int64} (h : RelM A iv lv) {U : List (Int32 × Sc)} (hu : undoM iv' U) (e2 : ∀ a k, (a ∈ [47, 48, 49, 50, 55, 78] ∨ (a = 46 ∧ k ∈ [1, 11, 13, 18, 20, 54, 58, 59])) → iv' a k = iv a k) : RelM (stU A U) iv' lv := by
  have c : ∀ a, a ∈ [47, 48, 49, 50, 55, 78] → iv' a = iv a := fun a ha => by funext k; exact e2 a k (Or.inl ha)
  have f : ∀ k, k ∈ [1, 11, 13, 18, 20, 54, 58, 59] → iv' 46 k = iv 46 k := fun k hk => e2 46 k (Or.inr ⟨rfl, hk⟩)
  obtain ⟨h1, h2, h3, h4, h5, h6, h7, h8⟩ := h
  refine ⟨?_, ?_, ?_, hu, ?_, ?_, ?_, h8⟩
  · rw [c 48 (by simp)]; exact h1
  · unfold imgsM; rw [c 49 (by simp), c 50 (by simp)]; exact h2
  · rw [f 13 (by simp), c 55 (by simp)]; exact h3
  · unfold drawnM; rw [f 58 (by simp), f 59 (by simp), c 78 (by simp)]; exact h5
  · unfold miscM; rw [f 18 (by simp), f 54 (by simp), f 11 (by simp), f 1 (by simp), c 47 (by simp)]; exact h6
  · rw [f 20 (by simp)]; exact h7
theorem getE_lt {α : Type} {l : List α} {i : Nat} {e : α} (h : l[i]? = some e) : i < l.length := by
  rcases Nat.lt_or_ge i l.length with q | q
  · exact q
  · rw [List.getElem?_eq_none q] at h; cases h
/-- remember -/
theorem m_remember (X : XE) (d : Nat) {im lw : List (Option Nat)} {tl : List XC} {iv : Nat → Nat → Int32} {lv : Nat → Nat → Int64} {A : St} (h : RelM A iv lv) (ho : OKA A) (k : Int32) : ∃ iv', call X xT (d + 2) 267 [.inr (.inr (some 46)), .inl k] (SS im lw tl, iv, lv) = some (none, (SS im lw tl, iv', lv)) ∧ RelM (stU A (pushU A.2.2.2.1 k A.1.1)) iv' lv ∧ outI iv iv' ∧ iv' 48 = iv 48 := by
  obtain ⟨l1, l2⟩ := h.2.2.2.1
  have lu := ho.2.2.2.1.1
  have he : eqS A.1.1 (fM (iv 48)) := h.1.1
  have fin : ∀ (w2 : Option XV) (iv1 : Nat → Nat → Int32) (n : Nat), n < 16 → n + 1 = (pushU A.2.2.2.1 k A.1.1).length → iv1 46 8 = nI n → (∀ i e, A.2.2.2.1[i]? = some e → i < 15 → i < n → iv1 52 (n - 1 - i) = e.1 ∧ ∀ j, j < 53 → iv1 51 (53 * (n - 1 - i) + j) = e.2 (ux j)) → (∀ a, a ≠ 46 → a ≠ 51 → a ≠ 52 → iv1 a = iv a) → (∀ k, k ≠ 8 → iv1 46 k = iv 46 k) → iv1 48 = iv 48 → ∃ iv', bV (call X xT (d + 1) 268 [.inr (.inr (some 46)), .inl (nI n)] (SS im lw tl, iv1, lv)) (fun h1 => run X (call X xT (d + 1)) false 0 xc267 85 [some (.inr (.inr (some 46))), some (.inl k), w2] [] h1) = some (none, (SS im lw tl, iv', lv)) ∧ RelM (stU A (pushU A.2.2.2.1 k A.1.1)) iv' lv ∧ outI iv iv' ∧ iv' 48 = iv 48 := by
    intro w2 iv1 n hn hlen h8 hold hfr h46 h48
    obtain ⟨g, g1, g2, g3⟩ := m_keepAll X d im lw tl iv1 lv (k := n) (by omega)
    rw [g1, bV_some, sg267_85, upr_off _ _ _ (show 46 ≠ 51 by decide), h8, if_pos (inb_nI hn (by omega)), nI_clamp (by omega), nI_add]
    refine ⟨_, rfl, h.un ⟨?_, ?_⟩ ?_, ?_, ?_⟩
    · rw [upd2_self, hlen]
    · intro i e hi
      rw [← hlen, upd2_off _ _ _ _ (show 52 ≠ 46 by decide), upd2_rw, upr_off _ _ _ (show 52 ≠ 51 by decide), upd2_off _ _ _ _ (show 51 ≠ 46 by decide), upd2_off _ _ _ _ (show 51 ≠ 52 by decide), upr_self]
      rw [pushU_at] at hi
      split at hi
      · rename_i i16
        split at hi
        · rename_i i0
          cases hi
          subst i0
          rw [show n + 1 - 1 - 0 = n by omega, pu_s]
          exact ⟨rfl, fun j hj => by rw [g2 j hj, h48, row_ux he hj]⟩
        · rename_i i0
          have hl := getE_lt hi
          have hi' : i < n + 1 := by rw [hlen, pushU_len lu]; split <;> omega
          have hq := hold (i - 1) e hi (by omega) (by omega)
          rw [show n - 1 - (i - 1) = n + 1 - 1 - i by omega] at hq
          rw [pu_n _ _ _ (by omega)]
          exact ⟨hq.1, fun j hj => by rw [g3 _ (by omega)]; exact hq.2 j hj⟩
      · cases hi
    · intro a k2 q
      have a1 : a ≠ 51 := by rcases q with q | ⟨q, r⟩ <;> simp at * <;> omega
      have a2 : a ≠ 52 := by rcases q with q | ⟨q, r⟩ <;> simp at * <;> omega
      by_cases a46 : a = 46
      · subst a46
        have k8 : k2 ≠ 8 := by rcases q with q | ⟨q, r⟩ <;> simp at * <;> omega
        rw [upd2_ne _ _ _ _ (by omega), upd2_off _ _ _ _ a2, upr_off _ _ _ a1, h46 k2 k8]
      · rw [upd2_off _ _ _ _ a46, upd2_off _ _ _ _ a2, upr_off _ _ _ a1, hfr a a46 a1 a2]
    · refine outI.tr (b := iv1) (fun a ha => hfr a (by omega) (by omega) (by omega)) ?_
      exact ((fr_upr _ _ (L := [51, 52, 46]) (by simp)).tr ((fr_upd _ _ _ (by simp)).tr (fr_upd _ _ _ (by simp)))).out (by intro x hx; simp at hx; omega)
    · rw [upd2_off _ _ _ _ (by decide), upd2_off _ _ _ _ (by decide), upr_off _ _ _ (by decide), h48]
  rw [tr267, l1]
  by_cases c : A.2.2.2.1.length = 16
  · rw [if_pos (by rw [c])]
    obtain ⟨g, g1, g2, g3⟩ := m_shift1 X (d + 1) im lw tl lv k 795 0 iv (by omega)
    obtain ⟨q, q1, q2, q3⟩ := m_shift2 X (d + 1) im lw tl lv k 15 0 (upr iv 51 g) (by omega)
    have u46 : (upr (upr iv 51 g) 52 q) 46 = iv 46 := by rw [upr_off _ _ _ (by decide), upr_off _ _ _ (by decide)]
    rw [g1, q1, sg267_41, if_pos (by decide), u46, l1, c, show nI 16 - nI 1 = nI 15 by decide]
    refine fin _ _ 15 (by omega) (by rw [pushU_len lu]; split <;> omega) (upd2_self _ _ _ _) ?_ ?_ ?_ ?_
    · intro i e hi i15 hin
      have hq := l2 i e hi
      rw [c] at hq
      rw [upd2_off _ _ _ _ (by decide), upr_self, q2 _ (by omega) (by omega), upr_off _ _ _ (show 52 ≠ 51 by decide), show 15 - 1 - i + 1 = 16 - 1 - i by omega]
      refine ⟨hq.1, fun j hj => ?_⟩
      rw [upd2_off _ _ _ _ (by decide), upr_off _ _ _ (by decide), upr_self, g2 _ (by omega) (by omega), show 53 * (15 - 1 - i) + j + 53 = 53 * (16 - 1 - i) + j by omega]
      exact hq.2 j hj
    · intro a a46 a51 a52
      rw [upd2_off _ _ _ _ a46, upr_off _ _ _ a52, upr_off _ _ _ a51]
    · intro k2 k8
      rw [upd2_ne _ _ _ _ (by omega), u46]
    · rw [upd2_off _ _ _ _ (by decide), upr_off _ _ _ (by decide), upr_off _ _ _ (by decide)]
  · rw [if_neg (fun q => c ((nI_eq (by omega) (by omega)).mp q))]
    refine fin none iv A.2.2.2.1.length (by omega) (by rw [pushU_len lu]; split <;> omega) l1 (fun i e hi _ _ => l2 i e hi) (fun _ _ _ _ => rfl) (fun _ _ => rfl) rfl
/-- canCrack -/
theorem m_may (X : XE) (d : Nat) (im lw : List (Option Nat)) (tl : List XC) (iv : Nat → Nat → Int32) (lv : Nat → Nat → Int64) (h20 : iv 46 20 = nI 0) {l : Lw} (hl : lawG (iv 48) l.1 l.2) {f : Sc} (hk : okS f) (he : eqS f (fM (iv 48))) {t p : Nat} (ht : t < 4) (hp : p < 6) : ∃ iv' lv', call X xT (d + 6) 266 [.inr (.inr (some 46)), .inl (nI t), .inl (nI p)] (SS im lw tl, iv, lv) = some (some (.inl (b2i (mayV f l t p))), (SS im lw tl, iv', lv')) ∧ agM iv iv' ∧ agN lv lv' := by
  obtain ⟨m, m1, m2⟩ := hk.a ht
  have ea : iv 48 (30 + t) = nI m := by rw [← m2, he (31 + t) (by omega), fM, mx_a ht]
  rw [tr266, nI_add, if_pos (ib5k (by omega)), nI_clamp (by omega), ea]
  unfold mayV
  rw [m2]
  by_cases h1 : m < 1
  · rw [if_pos (by rw [show m = 0 by omega]; decide), decide_eq_false (by simpa using nI_lt h1 (by omega))]
    exact ⟨iv, lv, rfl, agM.rf, agN.rf⟩
  · obtain ⟨iv', lv', g1, g2, g3⟩ := m_barred X d im lw tl iv lv h20 hl ht hp
    rw [if_neg (nI_nle (by omega) (by omega)), decide_eq_true (nI_nlt (by omega) (by omega)), g1, bI_some, sg266_18, Bool.true_and, ← barV_eq he _ _ ht hp]
    refine ⟨iv', lv', ?_, g2, g3⟩
    cases barV f l.1 l.2 t p <;> rfl
theorem m_q {im lw : List (Option Nat)} {tl : List XC} {iv iv' : Nat → Nat → Int32} {lv lv' : Nat → Nat → Int64} {A : St} (h : RelM A iv lv) (a : agM iv iv') (b : agN lv lv') {r : Option XR} {v : Int32} (e : r = some (some (.inl v), (SS im lw tl, iv', lv'))) : MR' im lw tl iv r (v, A) := ⟨iv', lv', e, h.ag a b, a.out⟩
theorem frG_keep {L : List Nat} {iv iv' : Nat → Nat → Int32} (h : frG L iv iv') (hL : ∀ x, x ∈ L → x = 48 ∨ x = 67 ∨ x = 68) : ∀ a k, (a ∈ [47, 49, 50, 51, 52, 55, 78] ∨ (a = 46 ∧ k ∈ [1, 8, 11, 13, 18, 20, 54, 58, 59])) → iv' a k = iv a k := fun a k q => h a k (fun hx => by have := hL a hx; rcases q with q | ⟨q, r⟩ <;> simp at * <;> omega) (by rcases q with q | ⟨q, r⟩ <;> simp at * <;> omega)
theorem M_crack0 (t p : Int32) : MAct 265 [.inl t, .inl p] (a_crack t p) := by
  intro X d im lw tl iv lv A h ho
  obtain ⟨p0, p1, t0, t1, hk, he, hk2, h20⟩ := mfacts h ho
  unfold a_crack
  rw [tr265, m_isT X (d + 9) im lw tl _ lv t1 t0, bI_some, sg265_5, b2i_ite]
  cases ht : hasV (nI (nT A.1.1)) t
  · rw [if_neg (by decide), Bool.false_and, if_neg (by decide)]
    exact m_q h agM.rf agN.rf rfl
  rw [if_pos rfl, Bool.true_and, m_isP X (d + 9) im lw tl _ lv p1 p0, bI_some, sg265_13, b2i_ite]
  by_cases hp : hasV (nI (nP A.1.1)) p = true
  · rw [if_pos hp, if_pos hp]
    obtain ⟨a, ha, rfl⟩ := hasV_of (by omega) ht
    obtain ⟨b, hb, rfl⟩ := hasV_of (by omega) hp
    rw [nI_clamp (show a < 2 ^ 31 by omega), nI_clamp (show b < 2 ^ 31 by omega)]
    obtain ⟨iv1, lv1, g1, g2, g3⟩ := m_may X (d + 5) im lw tl iv lv h20 (l := lawOf A.1) (h.lawG ho) hk he (t := a) (p := b) (by omega) (by omega)
    rw [g1, bI_some, sg265_25, b2i_ite]
    by_cases hm : mayV A.1.1 (lawOf A.1) a b = true
    · rw [if_pos hm, if_pos hm]
      obtain ⟨iv2, k1, k2, k3, k4⟩ := m_remember X (d + 9) (im := im) (lw := lw) (tl := tl) (h.ag g2 g3) ho (nI 0)
      have ho2 := ho.stU (ho.push (k := 0) (by decide))
      obtain ⟨p02, -, -, -, -, he2, -, h202⟩ := mfacts k2 ho2
      obtain ⟨iv3, lv3, m1, m2, m3, m4, m5⟩ := m_crackIt X (d + 4) im lw tl iv2 lv1 h202 (k2.lawG ho2) hk he2 p1 p02 (t := a) (p := b) (by omega) (by omega)
      have m1' : call X xT (d + 11) 269 [.inr (.inr (some 46)), .inl (nI a), .inl (nI b)] (SS im lw tl, iv2, lv1) = some (some (.inl (reaV A.1.1 (lawOf A.1).1 (lawOf A.1).2 a b)), (SS im lw tl, iv3, lv3)) := m1
      rw [k1, bV_some, sg265_36, m1', bI_some, sg265_42]
      refine ⟨iv3, lv3, rfl, RelM.sc k2 m2 m3 (frG_keep m4 (by intro x hx; simp at hx; omega)) (k2.c.N m5), ?_⟩
      exact (g2.out.tr k3).tr (m4.out (by intro x hx; simp at hx; omega))
    · rw [if_neg hm, if_neg hm]
      exact m_q h g2 g3 rfl
  · rw [if_neg hp, if_neg hp]
    exact m_q h agM.rf agN.rf rfl
theorem M_feed0 (t p : Int32) : MAct 272 [.inl t, .inl p] (a_feed t p) := by
  intro X d im lw tl iv lv A h ho
  obtain ⟨p0, p1, t0, t1, hk, he, hk2, h20⟩ := mfacts h ho
  unfold a_feed
  rw [tr272, m_isT X (d + 9) im lw tl _ lv t1 t0, bI_some, sg272_5, b2i_ite]
  cases ht : hasV (nI (nT A.1.1)) t
  · rw [if_neg (by decide), Bool.false_and, if_neg (by decide)]
    exact m_q h agM.rf agN.rf rfl
  rw [if_pos rfl, Bool.true_and, m_isP X (d + 9) im lw tl _ lv p1 p0, bI_some, sg272_13, b2i_ite]
  by_cases hp : hasV (nI (nP A.1.1)) p = true
  · rw [if_pos hp, if_pos hp]
    obtain ⟨a, ha, rfl⟩ := hasV_of (by omega) ht
    obtain ⟨b, hb, rfl⟩ := hasV_of (by omega) hp
    obtain ⟨q, q1, q2⟩ := hk.m (t := a) (by omega)
    have em : iv 48 (26 + a) = nI q := by rw [← q2, he (27 + a) (by omega), fM, mx_m (by omega)]
    rw [nI_clamp (show a < 2 ^ 31 by omega), nI_clamp (show b < 2 ^ 31 by omega), nI_add, if_pos (ib5k (by omega)), nI_clamp (by omega), em, q2]
    by_cases hm : q < 1
    · rw [if_pos (nI_lt hm (by omega)), if_pos (by rw [show q = 0 by omega]; decide)]
      exact m_q h agM.rf agN.rf rfl
    · rw [if_neg (nI_nlt (by omega) (by omega)), if_neg (nI_ne0 (by omega) (by omega))]
      obtain ⟨iv2, k1, k2, k3, k4⟩ := m_remember X (d + 9) (im := im) (lw := lw) (tl := tl) h ho (nI 1)
      have he2 : eqS A.1.1 (fM (iv2 48)) := k2.1.1
      have em2 : iv2 48 (26 + a) = nI q := by rw [k4]; exact em
      have nq : near (nI 99) (A.1.1 (27 + a) + (-1)) = nI q - nI 1 := by
        rw [q2, sb1, show q = q - 1 + 1 by omega, pk_m1]
        unfold near
        by_cases z : q - 1 < 99
        · rw [if_pos (nI_lt z (by omega))]
          by_cases z2 : 0 < q - 1
          · rw [if_pos (nI_lt z2 (by omega))]
          · rw [if_neg (nI_nlt (by omega) (by omega)), show q - 1 = 0 by omega]
        · omega
      rw [k1, bV_some, sg272_39, nI_add, if_pos (ib5k (by omega)), if_pos (ib5k (by omega)), nI_clamp (by omega), em2, ← nq, ← mx_m (show a < 4 by omega)]
      obtain ⟨iv3, m1, m2, m3, m4⟩ := m_feedIt X (d + 9) im lw tl (upd2 iv2 48 (mx (27 + a)) (near (nI 99) (A.1.1 (27 + a) + (-1)))) lv (t := a) (p := b) (f := pu A.1.1 (27 + a) (near (nI 99) (A.1.1 (27 + a) + (-1)))) (by rw [upd2_rw]; exact eqS_pu he2 (by omega) _) (by omega) (by omega)
      have ef : feedF A.1.1 a b = eatF (pu A.1.1 (27 + a) (near (nI 99) (A.1.1 (27 + a) + (-1)))) a b := by
        unfold feedF
        rw [if_neg (by rw [q2]; exact nI_nlt (by omega) (by omega))]
      rw [m1, bV_some, sg272_58, nI_add, if_pos (ib5k (by omega)), nI_clamp (by omega), ← mx_h (show b < 6 by omega), ef]
      have m2' := m2 (5 + b) (by omega)
      rw [show iv3 48 (mx (5 + b)) = fM (iv3 48) (5 + b) from rfl, ← m2']
      rw [upd2_rw] at m3
      refine ⟨iv3, lv, rfl, RelM.sc k2 m2 ((rowS_pu _ (by omega) _).tr m3) (frG_keep (L := [48]) (((fr_upd _ _ _ (by simp)).tr m4).G) (by intro x hx; simp at hx; omega)) k2.c, ?_⟩
      exact k3.tr (((fr_upd _ _ _ (L := [48]) (by simp)).tr m4).out (by intro x hx; simp at hx; omega))
  · rw [if_neg hp, if_neg hp]
    exact m_q h agM.rf agN.rf rfl
theorem M_move0 (p b : Int32) : MAct 275 [.inl p, .inl b] (a_move p b) := by
  intro X d im lw tl iv lv A h ho
  obtain ⟨p0, p1, t0, t1, hk, he, hk2, h20⟩ := mfacts h ho
  unfold a_move
  rw [tr275, tr206, m_in X (d + 9), bI_some, sg206_9, if_pos (is01_b2i _), bI_some, sg275_4, b2i_ite, in_inV b (top := 7) (by decide)]
  by_cases hb : inV b (nI 7) = true
  · rw [if_pos hb, if_pos hb, m_isP X (d + 9) im lw tl _ lv p1 p0, bI_some, sg275_14, b2i_ite]
    by_cases hp : hasV (nI (nP A.1.1)) p = true
    · rw [if_pos hp, if_pos hp]
      obtain ⟨q, hq, rfl⟩ := hasV_of (by omega) hp
      rw [nI_clamp (show q < 2 ^ 31 by omega)]
      obtain ⟨r, r1, r2⟩ := m_onTub X (d + 10) im lw tl iv lv he p1 p0 b
      rw [r1, bI_some, sg275_25]
      by_cases ht : tubV A.1.1 b (nP A.1.1) 0 = true
      · rw [if_pos ht, if_neg (fun q => by rw [r2.mp q] at ht; cases ht)]
        exact m_q h agM.rf agN.rf rfl
      · rw [if_neg ht, if_pos (r2.mpr (by simpa using ht))]
        obtain ⟨iv2, k1, k2, k3, k4⟩ := m_remember X (d + 9) (im := im) (lw := lw) (tl := tl) h ho (nI 2)
        have he2 : eqS A.1.1 (fM (iv2 48)) := k2.1.1
        have em2 : iv2 48 (20 + q) = A.1.1 (17 + q) := by rw [he2 (17 + q) (by omega), fM, mx_b (by omega)]
        rw [k1, bV_some, sg275_37, nI_add, if_pos (ib5k (by omega)), if_pos (ib5k (by omega)), nI_clamp (by omega), em2, ← mx_b (show q < 6 by omega)]
        exact ⟨_, lv, rfl, RelM.pu k2 (by omega) b, k3.tr (out_upd _ _ _ (by decide) (by decide))⟩
    · rw [if_neg hp, if_neg hp]
      exact m_q h agM.rf agN.rf rfl
  · rw [if_neg hb, if_neg hb]
    exact m_q h agM.rf agN.rf rfl
theorem M_pass0 : MAct 277 [] a_pass := by
  intro X d im lw tl iv lv A h ho
  obtain ⟨p0, p1, t0, t1, hk, he, hk2, h20⟩ := mfacts h ho
  obtain ⟨dy, d1, d2⟩ := hk.d
  have ed : iv 48 5 = nI dy := by rw [← d2]; exact (he 2 (by omega)).symm
  unfold a_pass
  rw [tr277, ed, d2]
  by_cases hd : dy < 999
  · rw [if_pos (nI_lt hd (by omega)), if_neg (fun q => by have := (nI_eq (by omega) (by omega)).mp q; omega)]
    obtain ⟨iv2, k1, k2, k3, k4⟩ := m_remember X (d + 9) (im := im) (lw := lw) (tl := tl) h ho (nI 3)
    have ho2 := ho.stU (ho.push (k := 3) (by decide))
    obtain ⟨-, -, -, -, -, he2, -, h202⟩ := mfacts k2 ho2
    obtain ⟨iv3, lv3, m1, m2, m3, m4, m5⟩ := m_passIt X (d + 5) im lw tl iv2 lv h202 (k2.lawG ho2) he2 p1 t1 hk.np.1 hk.nt.1 d2 hd
    have e5 : iv3 48 5 = dayW A.1 2 := (m2 2 (by omega)).symm
    rw [k1, bV_some, sg277_20, m1, bV_some, sg277_24, e5]
    refine ⟨iv3, lv3, rfl, RelM.sc k2 m2 m3 (frG_keep m4 (by intro x hx; simp at hx; omega)) (k2.c.N m5), ?_⟩
    exact k3.tr (m4.out (by intro x hx; simp at hx; omega))
  · rw [if_neg (nI_nlt (by omega) (by omega)), if_pos (by rw [show dy = 999 by omega])]
    exact m_q h agM.rf agN.rf rfl
/-- the answer settled -/
def setl (F : St → Int32 × St) (A : St) : Int32 × St := if (F A).1 < 0 then rfs (if (F A).1 = -1 then 0 else if (F A).1 = -2 then 1 else 2) A else ((F A).1, stS (F A).2 (nI 0))
theorem rc_neg {i : Nat} (h : i < 3) : rcode i < 0 ∧ (if rcode i = -1 then 0 else if rcode i = -2 then 1 else 2) = i := by
  have : i = 0 ∨ i = 1 ∨ i = 2 := by omega
  rcases this with rfl | rfl | rfl <;> decide
theorem c_settle {X : XE} (hX : XOK X) (d : Nat) {im lw : List (Option Nat)} {tl : List XC} {iv : Nat → Nat → Int32} {lv : Nat → Nat → Int64} {F : St → Int32 × St} (hF : actOK F) {A : St} (ho : OKA A) {r : Option XR} (h : CR' im lw tl iv lv r (F A)) {C : List XI} {pc : Nat} {ls : XL} {K : Int32 → XH → Option XR} (hK : ∀ v iv' lv', K v (SS im lw tl, iv', lv') = bI (call X xT (d + 2) 136 [.inr (.inr (some 0)), .inl v] (SS im lw tl, iv', lv')) (fun r2 h1 => run X (call X xT (d + 2)) false 1 C pc ls [.inl r2] h1)) (hC : ∀ v iv' lv', run X (call X xT (d + 2)) false 1 C pc ls [.inl v] (SS im lw tl, iv', lv') = some (some (.inl v), (SS im lw tl, iv', lv'))) : CR' im lw tl iv lv (bI r K) (setl F A) := by
  obtain ⟨iv', lv', h1, h2, h3, h4⟩ := h
  unfold setl
  rw [h1, bI_some, hK]
  rcases hF A ho with ⟨i, hi, e⟩ | ⟨hp, -⟩
  · rw [e] at h2 ⊢
    have rn := rc_neg hi
    show CR' im lw tl iv lv _ (if rcode i < 0 then rfs (if rcode i = -1 then 0 else if rcode i = -2 then 1 else 2) A else _)
    rw [if_pos rn.1, rn.2]
    exact crf2 h2 h3 h4 (by omega) (by rw [tr136, if_neg (fun q => by have q : (0 : Int32) ≤ rcode i := q; rw [fb_le] at q; have := rn.1; rw [fb_lt] at this; omega), c_refused hX _ im lw tl iv' lv' (by omega), bI_some, sg136_9, sg136_17, bI_some, hC])
  · rw [if_neg (fun q => by rw [fb_le] at hp; rw [fb_lt] at q; omega), tr136, if_pos hp, tr22, bI_some, sg136_17, bI_some, hC]
    exact ⟨_, lv', rfl, h2.st _, h3.tr (mid_upd _ _ _ (by decide)), h4⟩
theorem m_settle (X : XE) (d : Nat) {im lw : List (Option Nat)} {tl : List XC} {iv ivz : Nat → Nat → Int32} (hz : outI iv ivz) {F : St → Int32 × St} (hF : actOK F) {A : St} (ho : OKA A) {r : Option XR} (h : MR' im lw tl ivz r (F A)) {C : List XI} {pc : Nat} {ls : XL} {K : Int32 → XH → Option XR} (hK : ∀ v iv' lv', K v (SS im lw tl, iv', lv') = bI (call X xT (d + 1) 198 [.inr (.inr (some 46)), .inl v] (SS im lw tl, iv', lv')) (fun r2 h1 => run X (call X xT (d + 1)) false 1 C pc ls [.inl r2] h1)) (hC : ∀ v iv' lv', run X (call X xT (d + 1)) false 1 C pc ls [.inl v] (SS im lw tl, iv', lv') = some (some (.inl v), (SS im lw tl, iv', lv'))) : MR' im lw tl iv (bI r K) (setl F A) := by
  obtain ⟨iv', lv', h1, h2, h3⟩ := h
  unfold setl
  rw [h1, bI_some, hK]
  rcases hF A ho with ⟨i, hi, e⟩ | ⟨hp, -⟩
  · rw [e] at h2 ⊢
    have rn := rc_neg hi
    show MR' im lw tl iv _ (if rcode i < 0 then rfs (if rcode i = -1 then 0 else if rcode i = -2 then 1 else 2) A else _)
    rw [if_pos rn.1, rn.2]
    exact mrf h2 (hz.tr h3) (by omega) (by rw [m_tellN X d im lw tl iv' lv' (by omega), bI_some, hC])
  · rw [if_neg (fun q => by rw [fb_le] at hp; rw [fb_lt] at q; omega), m_tellP X d im lw tl _ lv' hp, bI_some, hC]
    exact ⟨_, lv', rfl, h2.st _, (hz.tr h3).tr (out_upd _ _ _ (by decide) (by decide))⟩
theorem O_settle {F : St → Int32 × St} (hF : actOK F) : ∀ A, OKA A → OKA (setl F A).2 := by
  intro A h
  unfold setl
  rcases hF A h with ⟨i, hi, e⟩ | ⟨hp, h2⟩
  · rw [e]
    have rn := rc_neg hi
    show OKA (if rcode i < 0 then _ else _ : Int32 × St).2
    rw [if_pos rn.1]
    exact h
  · rw [if_neg (fun q => by rw [fb_le] at hp; rw [fb_lt] at q; omega)]
    exact h2
theorem S_crack (t p : Int32) : stepOK 135 264 [.inl t, .inl p] := by
  refine step_of (F := setl (a_crack t p)) ?_ ?_ (O_settle (K_crack t p))
  · intro X hX d im lw tl iv lv A h ho
    rw [tr135]
    exact c_settle hX (d + 37) (K_crack t p) ho (C_crack0 t p X (d + 27) im lw tl iv lv A h ho) (fun v iv' lv' => sg135_7 _ _ _ _ _ _ _ _ _ v) (fun v iv' lv' => sg135_10 _ _ _ _ _ _ _ _ _ v)
  · intro X d im lw tl iv lv A h ho
    rw [tr264]
    exact m_settle X (d + 38) (out0 iv) (K_crack t p) ho (M_crack0 t p X (d + 27) im lw tl _ lv A (h.thr _) ho) (fun v iv' lv' => sg264_12 _ _ _ _ _ _ _ _ _ v) (fun v iv' lv' => sg264_15 _ _ _ _ _ _ _ _ _ v)
theorem S_meat (t p : Int32) : stepOK 137 271 [.inl t, .inl p] := by
  refine step_of (F := setl (a_feed t p)) ?_ ?_ (O_settle (K_feed t p))
  · intro X hX d im lw tl iv lv A h ho
    rw [tr137]
    exact c_settle hX (d + 37) (K_feed t p) ho (C_feed0 t p X (d + 27) im lw tl iv lv A h ho) (fun v iv' lv' => sg137_7 _ _ _ _ _ _ _ _ _ v) (fun v iv' lv' => sg137_10 _ _ _ _ _ _ _ _ _ v)
  · intro X d im lw tl iv lv A h ho
    rw [tr271]
    exact m_settle X (d + 38) (out0 iv) (K_feed t p) ho (M_feed0 t p X (d + 27) im lw tl _ lv A (h.thr _) ho) (fun v iv' lv' => sg271_12 _ _ _ _ _ _ _ _ _ v) (fun v iv' lv' => sg271_15 _ _ _ _ _ _ _ _ _ v)
theorem S_move (t p : Int32) : stepOK 138 274 [.inl t, .inl p] := by
  refine step_of (F := setl (a_move t p)) ?_ ?_ (O_settle (K_move t p))
  · intro X hX d im lw tl iv lv A h ho
    rw [tr138]
    exact c_settle hX (d + 37) (K_move t p) ho (C_move0 t p X (d + 27) im lw tl iv lv A h ho) (fun v iv' lv' => sg138_7 _ _ _ _ _ _ _ _ _ v) (fun v iv' lv' => sg138_10 _ _ _ _ _ _ _ _ _ v)
  · intro X d im lw tl iv lv A h ho
    rw [tr274]
    exact m_settle X (d + 38) (out0 iv) (K_move t p) ho (M_move0 t p X (d + 27) im lw tl _ lv A (h.thr _) ho) (fun v iv' lv' => sg274_12 _ _ _ _ _ _ _ _ _ v) (fun v iv' lv' => sg274_15 _ _ _ _ _ _ _ _ _ v)
theorem S_pass  : stepOK 139 276 [] := by
  refine step_of (F := setl (a_pass)) ?_ ?_ (O_settle K_pass)
  · intro X hX d im lw tl iv lv A h ho
    rw [tr139]
    exact c_settle hX (d + 37) K_pass ho (C_pass0 X (d + 27) im lw tl iv lv A h ho) (fun v iv' lv' => sg139_5 _ _ _ _ _ _ _ v) (fun v iv' lv' => sg139_8 _ _ _ _ _ _ _ v)
  · intro X d im lw tl iv lv A h ho
    rw [tr276]
    exact m_settle X (d + 38) (out0 iv) K_pass ho (M_pass0 X (d + 27) im lw tl _ lv A (h.thr _) ho) (fun v iv' lv' => sg276_10 _ _ _ _ _ _ _ v) (fun v iv' lv' => sg276_13 _ _ _ _ _ _ _ v)
