/-! calls: governed -/
def govM (f : Sc) (l : Lw) (t p : Nat) : Bool := loyV f l.1 l.2 t p && !barV f l.1 l.2 t p
def cnt (r : Sc) (j : Nat) : Nat → Nat
  | 0 => 0
  | p + 1 => cnt r j p + (if r p = nI j then 1 else 0)
def govS (f : Sc) (l : Lw) (nt p j : Nat) (r : Sc) : Option Nat := if j = nt then some 1 else if govM f l j p = true ∧ cnt r j p < 2 then some 0 else none
def cvR (nt : Nat) (x : Int32) : Int32 := if x = nI nt then nI 100 else x
def gB (n : Nat) (o : Option Lf) : Int32 := match o with
  | none => -1
  | some b => nI (n - b.1)
theorem cnt_le (r : Sc) (j : Nat) : ∀ p, cnt r j p ≤ p := by
  intro p
  induction p with
  | zero => exact Nat.le_refl _
  | succ p ih => simp only [cnt]; split <;> omega
theorem cnt_eq {r r' : Sc} (j : Nat) : ∀ p, (∀ i, i < p → r i = r' i) → cnt r j p = cnt r' j p := by
  intro p
  induction p with
  | zero => intro _; rfl
  | succ p ih => intro h; simp only [cnt]; rw [ih (fun i hi => h i (by omega)), h p (by omega)]
theorem cnt_pu (r : Sc) (p j t : Nat) (hj : j < 8) (ht : t < 8) : cnt (pu r p (nI j)) t (p + 1) = cnt r t p + (if j = t then 1 else 0) := by
  simp only [cnt]
  rw [pu_s, cnt_eq t p (fun i hi => pu_n r p (nI j) (by omega))]
  congr 1
  by_cases e : j = t
  · rw [if_pos (by rw [e]), if_pos e]
  · rw [if_neg (fun q => e (nI_inj8 j hj t ht q)), if_neg e]
theorem cv_o {nt j : Nat} (h : j < nt) (hn : nt ≤ 4) : cvR nt (nI j) = nI j := if_neg (fun e => by have := nI_inj8 j (by omega) nt (by omega) e; omega)
theorem cv_s (nt : Nat) : cvR nt (nI nt) = nI 100 := if_pos rfl
theorem gov_le {f : Sc} {l : Lw} {nt : Nat} : ∀ p j r x, govS f l nt p j r = some x → x ≤ 1 := by
  intro p j r x h
  unfold govS at h
  split at h
  · injection h with h; omega
  · split at h
    · injection h with h; omega
    · cases h
theorem bst_ge {b : Lf} : ∀ (L : List Lf), (∀ l, l ∈ L → b.1 ≤ l.1) → bst (some b) L = some b := by
  intro L
  induction L with
  | nil => intro _; rfl
  | cons x L ih =>
    intro h
    show bst (bst1 (some b) x) L = _
    rw [show bst1 (some b) x = some b from if_neg (by have := h x (by simp); omega)]
    exact ih (fun l hl => h l (by simp [hl]))
def govI (n nt : Nat) (o : Option Lf) (iv : Nat → Nat → Int32) : Prop := iv 21 9 = nI n ∧ iv 21 8 = gB n o ∧ ∀ b, o = some b → b.1 ≤ n ∧ ∀ i, i < n → iv 27 i = cvR nt (b.2 i)
theorem gB_lt {n c : Nat} (hn : n ≤ 6) (hc : c ≤ n) {o : Option Lf} (h : ∀ b, o = some b → b.1 ≤ n) : (gB n o < nI (n - c) ∧ ∀ r, bst1 o (c, r) = some (c, r)) ∨ (¬ gB n o < nI (n - c) ∧ ∃ b, o = some b ∧ b.1 ≤ c) := by
  cases o with
  | none => exact Or.inl ⟨by show (-1 : Int32) < nI (n - c); exact (by decide : ∀ m, m ≤ 6 → (-1 : Int32) < nI m) (n - c) (by omega), fun r => rfl⟩
  | some b =>
    have := h b rfl
    by_cases e : c < b.1
    · exact Or.inl ⟨nI_lt (by omega) (by omega), fun r => if_pos e⟩
    · exact Or.inr ⟨nI_nlt (by omega) (by omega), b, rfl, by omega⟩
/-- what the class's search leaves -/
def govR (im lw : List (Option Nat)) (tl : List XC) (lv : Nat → Nat → Int64) (n nt p : Nat) (iv : Nat → Nat → Int32) (o : Option Lf) (T : Option XR) : Prop := ∃ iv', T = some (none, (SS im lw tl, iv', lv)) ∧ govI n nt o iv' ∧ fr [21, 26, 27, 29] iv iv' ∧ (∀ t, t < 4 → iv' 29 t = iv 29 t) ∧ ∀ i, i < p → iv' 26 i = iv 26 i
theorem c_govern (X : XE) (im lw : List (Option Nat)) (tl : List XC) (lv : Nat → Nat → Int64) {f : Sc} {l : Lw} {n nt : Nat} (hn : n ≤ 6) (hnt : nt ≤ 4) : ∀ (m p : Nat), p + m = n → ∀ (d : Nat) (iv : Nat → Nat → Int32) (r : Sc) (c : Nat) (o : Option Lf), govI n nt o iv → (∀ q, q < n → ∀ t, t < 4 → bitV (iv 28 q) t = (decide (t < nt) && govM f l t q)) → (∀ t, t < nt → iv 29 t = nI (cnt r t p)) ∧ (∀ i, i < p → iv 26 i = cvR nt (r i)) → c ≤ p → govR im lw tl lv n nt p iv (bst o (lev (nt + 1) (govS f l nt) m p r c)) (call X xT (d + 2 + m) 174 [.inr (.inr (some 21)), .inl (nI p), .inl (nI (p - c))] (SS im lw tl, iv, lv)) := by
  intro m
  induction m with
  | zero =>
    intro p hp d iv r c o hI hM hU hc
    have : p = n := by omega
    subst this
    show govR im lw tl lv p nt p iv (bst1 o (c, r)) _
    rw [tr174, hI.1, hI.2.1, nI_add, pk_sub (by omega), show p - c + p - p = p - c by omega]
    rcases gB_lt hn hc (fun b hb => (hI.2.2 b hb).1) with ⟨b1, b2⟩ | ⟨b1, b, b2, b3⟩
    · rw [if_pos b1, if_pos (nI_le (by omega) (by omega)), b2 r]
      obtain ⟨iv1, k1, k2, k3, k4, k5⟩ := c_keepR X d im lw tl iv lv (nI (p - c))
      rw [k1, bV_some, sg174_35]
      refine ⟨iv1, rfl, ⟨by rw [k4]; exact hI.1, k3, fun b hb => ?_⟩, k2.mo (by simp), fun t _ => by rw [k2 29 (by decide)], fun i _ => by rw [k2 26 (by decide)]⟩
      injection hb with hb; subst hb
      exact ⟨hc, fun i hi => by rw [k5 i (by omega)]; exact hU.2 i hi⟩
    · rw [if_neg b1]
      subst b2
      rw [show bst1 (some b) (c, r) = some b from if_neg (by omega)]
      exact ⟨iv, rfl, hI, fun _ _ => rfl, fun _ _ => rfl, fun _ _ => rfl⟩
  | succ m ih =>
    intro p hp d iv r c o hI hM hU hc
    rw [show d + 2 + (m + 1) = (d + 2 + m) + 1 from rfl, tr174, hI.1, hI.2.1, nI_add, pk_sub (by omega), show p - c + n - p = n - c by omega]
    rcases gB_lt hn (show c ≤ n by omega) (fun b hb => (hI.2.2 b hb).1) with ⟨b1, b2⟩ | ⟨b1, b, b2, b3⟩
    · rw [if_pos b1, if_neg (nI_ge (by omega) (by omega)), if_pos (nI_lt (by omega) (by omega))]
      have ih := fun iv r c o => ih (p + 1) (by omega) d iv r c o
      have loop : ∀ (k t : Nat), t + k = 4 → ∀ (iv : Nat → Nat → Int32) (o : Option Lf), govI n nt o iv → (∀ q, q < n → ∀ t, t < 4 → bitV (iv 28 q) t = (decide (t < nt) && govM f l t q)) → (∀ t, t < nt → iv 29 t = nI (cnt r t p)) ∧ (∀ i, i < p → iv 26 i = cvR nt (r i)) → govR im lw tl lv n nt p iv (bst o (levI (lev (nt + 1) (govS f l nt) m (p + 1)) (govS f l nt p) p r c (nt + 1 - min t nt) (min t nt))) (run X (call X xT (d + 2 + m)) false 0 xc174 38 [some (.inr (.inr (some 21))), some (.inl (nI p)), some (.inl (nI (p - c))), some (.inl (nI t))] [] (SS im lw tl, iv, lv)) := by
        intro k
        induction k with
        | zero =>
          intro t ht iv o hI hM hU
          have : t = 4 := by omega
          subst this
          rw [show min 4 nt = nt by omega, show nt + 1 - nt = 1 by omega]
          simp only [levI]
          rw [List.append_nil, show govS f l nt p nt r = some 1 from if_pos rfl]
          show govR im lw tl lv n nt p iv (bst o (lev (nt + 1) (govS f l nt) m (p + 1) (pu r p (nI nt)) (c + 1))) _
          rw [sg174_38, if_pos (nI_le (by omega) (by omega)), if_pos (inb_nI (by omega) (by omega)), nI_clamp (by omega), nI_add]
          have off : ∀ a, a ≠ 26 → (upd2 iv 26 p (nI 100)) a = iv a := fun a ha => upd2_off _ _ _ _ ha
          obtain ⟨iv1, a1, a2, a3, a4, a5⟩ := ih (upd2 iv 26 p (nI 100)) (pu r p (nI nt)) (c + 1) o (by unfold govI; rw [off 21 (by decide), off 27 (by decide)]; exact hI) (by rw [off 28 (by decide)]; exact hM) ⟨fun t ht => by
            rw [off 29 (by decide), hU.1 t ht, cnt_pu r p nt t (by omega) (by omega)]
            rw [if_neg (by omega)]; rfl, fun i hi => by
            by_cases e : i = p
            · subst e; rw [upd2_self, pu_s, cv_s]
            · rw [upd2_ne _ _ _ _ (fun z => e z.2), pu_n _ _ _ e]; exact hU.2 i (by omega)⟩ (by omega)
          rw [show p + 1 - (c + 1) = p - c by omega] at a1
          rw [a1, bV_some, sg174_125]
          exact ⟨iv1, rfl, a2, (fr_upd _ _ _ (by simp)).tr a3, fun t ht => by rw [a4 t ht, off 29 (by decide)], fun i hi => by rw [a5 i (by omega), upd2_ne _ _ _ _ (by omega)]⟩
        | succ k ik =>
          intro t ht iv o hI hM hU
          have bt := hM p (by omega) t (by omega)
          have nx := fun iv o => ik (t + 1) (by omega) iv o
          rw [sg174_38, if_neg (nI_ge (by omega) (by omega)), if_pos (inb_nI (by omega) (by omega)), nI_clamp (by omega), nI_add]
          by_cases c1 : t < nt
          · rw [show min t nt = t by omega, show nt + 1 - t = (nt + 1 - (t + 1)) + 1 by omega]
            simp only [levI]
            rw [bst_app]
            rw [show min (t + 1) nt = t + 1 by omega] at nx
            have gs : govS f l nt p t r = if govM f l t p = true ∧ cnt r t p < 2 then some 0 else none := if_neg (by omega)
            rw [decide_eq_true c1, Bool.true_and] at bt
            cases hg : govM f l t p
            · rw [hg] at bt gs
              rw [if_pos ((bit_0 _ _).mpr bt), gs, if_neg (by simp)]
              exact nx iv o hI hM hU
            · rw [hg] at bt gs
              rw [if_neg (fun e => by rw [(bit_0 _ _).mp e] at bt; cases bt), if_pos (inb_nI (by omega) (by omega)), nI_clamp (by omega), hU.1 t c1]
              have cl := cnt_le r t p
              by_cases c2 : cnt r t p < 2
              · rw [if_neg (nI_ge c2 (by omega)), if_pos (inb_nI (by omega) (by omega)), if_pos (inb_nI (by omega) (by omega)), if_pos (inb_nI (by omega) (by omega)), nI_add, nI_add, nI_add, gs, if_pos ⟨rfl, c2⟩]
                have off : ∀ a, a ≠ 26 → a ≠ 29 → (upd2 (upd2 iv 26 p (nI t)) 29 t (nI (cnt r t p + 1))) a = iv a := fun a h1 h2 => by rw [upd2_off _ _ _ _ h2, upd2_off _ _ _ _ h1]
                obtain ⟨iv1, a1, a2, a3, a4, a5⟩ := ih (upd2 (upd2 iv 26 p (nI t)) 29 t (nI (cnt r t p + 1))) (pu r p (nI t)) (c + 0) o (by unfold govI; rw [off 21 (by decide) (by decide), off 27 (by decide) (by decide)]; exact hI) (by rw [off 28 (by decide) (by decide)]; exact hM) ⟨fun s hs => by
                  rw [cnt_pu r p t s (by omega) (by omega)]
                  by_cases e : t = s
                  · subst e; rw [upd2_self, if_pos rfl]
                  · rw [upd2_ne _ _ _ _ (fun z => e z.2.symm), upd2_off _ _ _ _ (by decide), if_neg e]; exact hU.1 s hs, fun i hi => by
                  rw [upd2_off _ _ _ _ (by decide)]
                  by_cases e : i = p
                  · subst e; rw [upd2_self, pu_s, cv_o c1 hnt]
                  · rw [upd2_ne _ _ _ _ (fun z => e z.2), pu_n _ _ _ e]; exact hU.2 i (by omega)⟩ (by omega)
                rw [show p + 1 - (c + 0) = p - c + 1 by omega] at a1
                rw [a1, bV_some, sg174_93, if_pos (inb_nI (by omega) (by omega)), if_pos (inb_nI (by omega) (by omega)), nI_clamp (by omega), a4 t (by omega), upd2_self, pk_sub (by omega), nI_add, show cnt r t p + 1 - 1 = cnt r t p by omega]
                have u29 : ∀ s, s < 4 → (upd2 iv1 29 t (nI (cnt r t p))) 29 s = iv 29 s := fun s hs => by
                  by_cases e : s = t
                  · subst e; rw [upd2_self, hU.1 s c1]
                  · rw [upd2_ne _ _ _ _ (fun z => e z.2), a4 s hs, upd2_ne _ _ _ _ (fun z => e z.2), upd2_off _ _ _ _ (by decide)]
                have u26 : ∀ i, i < p → (upd2 iv1 29 t (nI (cnt r t p))) 26 i = iv 26 i := fun i hi => by
                  rw [upd2_off _ _ _ _ (by decide), a5 i (by omega), upd2_off _ _ _ _ (by decide), upd2_ne _ _ _ _ (by omega)]
                have f1 : fr [21, 26, 27, 29] iv (upd2 iv1 29 t (nI (cnt r t p))) := (((fr_upd _ _ _ (by simp)).tr (fr_upd _ _ _ (by simp))).tr a3).tr (fr_upd _ _ _ (by simp))
                obtain ⟨iv2, b1, b2, b3, b4, b5⟩ := nx (upd2 iv1 29 t (nI (cnt r t p))) (bst o (lev (nt + 1) (govS f l nt) m (p + 1) (pu r p (nI t)) (c + 0))) (by unfold govI; rw [upd2_off _ _ _ _ (by decide), upd2_off _ _ _ _ (by decide)]; exact a2) (by rw [f1 28 (by decide)]; exact hM) ⟨fun s hs => by rw [u29 s (by omega)]; exact hU.1 s hs, fun i hi => by rw [u26 i hi]; exact hU.2 i hi⟩
                exact ⟨iv2, b1, b2, f1.tr b3, fun s hs => by rw [b4 s hs, u29 s hs], fun i hi => by rw [b5 i hi, u26 i hi]⟩
              · rw [if_pos (nI_le (by omega) (by omega)), gs, if_neg (fun e => c2 e.2)]
                exact nx iv o hI hM hU
          · rw [decide_eq_false c1, Bool.false_and] at bt
            rw [if_pos ((bit_0 _ _).mpr bt), show min t nt = min (t + 1) nt by omega]
            exact nx iv o hI hM hU
      have := loop 4 0 (by omega) iv o hI hM hU
      rw [show min 0 nt = 0 by omega] at this
      exact this
    · rw [if_neg b1]
      subst b2
      rw [bst_ge _ (fun l hl => by have := lev_ge _ _ _ _ l hl; omega)]
      exact ⟨iv, rfl, hI, fun _ _ => rfl, fun _ _ => rfl, fun _ _ => rfl⟩
