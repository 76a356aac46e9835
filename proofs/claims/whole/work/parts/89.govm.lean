/-! governed: the reference -/
theorem frG_row {L : List Nat} {iv iv' : Nat → Nat → Int32} (h : frG L iv iv') {a : Nat} (ha : a ∉ L) (h46 : a ≠ 46) : iv' a = iv a := by funext k; exact h a k ha (by omega)
theorem frG_upd (iv : Nat → Nat → Int32) {L : List Nat} {a : Nat} (k : Nat) (v : Int32) (h : a ∈ L) : frG L iv (upd2 iv a k v) := fr.G (fr_upd iv k v h)
theorem m_gfit (X : XE) (d : Nat) (im lw : List (Option Nat)) (tl : List XC) {f : Sc} {l : Lw} {nt p j : Nat} (hp : p < 6) (hj : j < nt) (hnt : nt ≤ 4) {r : Sc} : ∀ (k q : Nat) (iv : Nat → Nat → Int32) (lv : Nat → Nat → Int64), q + k = p → iv 69 p = nI j → (∀ i, i < p → iv 69 i = r i) → iv 46 20 = nI 0 → lawG (iv 48) l.1 l.2 → okS (fM (iv 48)) → eqS f (fM (iv 48)) → ∃ iv' lv', run X (call X xT (d + 6)) false 4 xc300 12 [some (.inr (.inr (some 46))), some (.inl (nI p)), some (.inl (nI j)), some (.inl (nI (cnt r j q))), some (.inl (nI q))] [] (SS im lw tl, iv, lv) = some (some (.inl (b2i (decide (cnt r j p < 2) && govM f l j p))), (SS im lw tl, iv', lv')) ∧ agM iv iv' ∧ agN lv lv' := by
  intro k
  induction k with
  | zero =>
    intro q iv lv hq h69 hr h20 hl hk he
    have : q = p := by omega
    subst this
    rw [sg300_12, if_pos (nI_le (by omega) (by omega))]
    have cl := cnt_le r j q
    by_cases c : cnt r j q < 2
    · rw [if_neg (nI_ge c (by omega)), decide_eq_true c, Bool.true_and]
      obtain ⟨iv1, lv1, a1, a2, a3⟩ := m_loyal X d im lw tl iv lv h20 hl hk (t := j) (p := q) (by omega) hp
      rw [← loyV_eq he _ _ (by omega) hp] at a1
      rw [a1, bI_some, sg300_54, b2i_ite]
      unfold govM
      cases loyV f l.1 l.2 j q
      · rw [if_neg (by decide)]; exact ⟨iv1, lv1, rfl, a2, a3⟩
      · rw [if_pos rfl]
        obtain ⟨iv2, lv2, b1, b2, b3⟩ := m_barred X (d + 1) im lw tl iv1 lv1 (by rw [a2 46 20 (by omega)]; exact h20) (by rw [a2.row (by omega)]; exact hl) (t := j) (p := q) (by omega) hp
        rw [a2.row (by omega), ← barV_eq he _ _ (by omega) hp] at b1
        rw [b1, bI_some, sg300_63, b2i_ite]
        cases barV f l.1 l.2 j q
        · rw [if_neg (by decide)]; exact ⟨iv2, lv2, rfl, a2.tr b2, a3.tr b3⟩
        · rw [if_pos rfl]; exact ⟨iv2, lv2, rfl, a2.tr b2, a3.tr b3⟩
    · rw [if_pos (nI_le (by omega) (by omega)), decide_eq_false c, Bool.false_and]
      exact ⟨iv, lv, rfl, fun _ _ _ => rfl, fun _ _ _ _ _ => rfl⟩
  | succ k ih =>
    intro q iv lv hq h69 hr h20 hl hk he
    have nx := ih (q + 1) iv lv (by omega) h69 hr h20 hl hk he
    rw [sg300_12, if_neg (nI_ge (by omega) (by omega)), if_pos (inb_nI (by omega) (by omega)), nI_clamp (by omega), hr q (by omega), nI_add, nI_add, nI_add]
    rw [show cnt r j (q + 1) = cnt r j q + (if r q = nI j then 1 else 0) from rfl] at nx
    by_cases e : r q = nI j
    · rw [if_pos e] at nx ⊢; exact nx
    · rw [if_neg e] at nx ⊢; exact nx
def rowG (n nt : Nat) (g : Sc) (o : Option Lf) : Prop := ∀ b, o = some b → b.1 ≤ n ∧ ∀ i, i < n → g i = cvR nt (b.2 i)
/-- those governed, counted -/
theorem m_gcnt (X : XE) (cl : XCl) (im lw : List (Option Nat)) (tl : List XC) (iv : Nat → Nat → Int32) (lv : Nat → Nat → Int64) {n nt : Nat} (hn : n ≤ 6) {r : Sc} (hr : ∀ i, i < n → iv 69 i = r i) (v3 v4 : Int32) : ∀ (k q : Nat), q + k = n → run X cl false 1 xc299 43 [some (.inr (.inr (some 46))), some (.inl (nI n)), some (.inl (nI nt)), some (.inl v3), some (.inl v4), some (.inl (nI (q - cnt r nt q))), some (.inl (nI q))] [] (SS im lw tl, iv, lv) = run X cl false 1 xc299 79 [some (.inr (.inr (some 46))), some (.inl (nI n)), some (.inl (nI nt)), some (.inl v3), some (.inl v4), some (.inl (nI (n - cnt r nt n))), some (.inl (nI 0))] [] (SS im lw tl, iv, lv) := by
  intro k
  induction k with
  | zero =>
    intro q hq
    have : q = n := by omega
    subst this
    rw [sg299_43, if_pos (nI_le (by omega) (by omega))]
  | succ k ih =>
    intro q hq
    have nx := ih (q + 1) (by omega)
    have cl := cnt_le r nt q
    rw [sg299_43, if_neg (nI_ge (by omega) (by omega)), if_pos (inb_nI (by omega) (by omega)), nI_clamp (by omega), hr q (by omega), nI_add, nI_add, nI_add]
    rw [show cnt r nt (q + 1) = cnt r nt q + (if r q = nI nt then 1 else 0) from rfl] at nx
    by_cases e : r q = nI nt
    · rw [if_pos e] at nx ⊢; rw [show q + 1 - (cnt r nt q + 1) = q - cnt r nt q + 0 by omega] at nx; exact nx
    · rw [if_neg e] at nx ⊢; rw [show q + 1 - (cnt r nt q + 0) = q - cnt r nt q + 1 by omega] at nx; exact nx
theorem m_gcp (X : XE) (cl : XCl) (im lw : List (Option Nat)) (tl : List XC) (lv : Nat → Nat → Int64) {n nt : Nat} (hn : n ≤ 6) {v3 v5 : Int32} (hb : ¬ v5 ≤ v3) (v4 : Int32) : ∀ (k i : Nat) (iv : Nat → Nat → Int32), i + k = n → ∃ iv', run X cl false 1 xc299 79 [some (.inr (.inr (some 46))), some (.inl (nI n)), some (.inl (nI nt)), some (.inl v3), some (.inl v4), some (.inl v5), some (.inl (nI i))] [] (SS im lw tl, iv, lv) = run X cl false 1 xc299 26 [some (.inr (.inr (some 46))), some (.inl (nI n)), some (.inl (nI nt)), some (.inl v5), some (.inl (v4 + (-1))), some (.inl v5), some (.inl (nI n))] [] (SS im lw tl, iv', lv) ∧ fr [72] iv iv' ∧ ∀ q, iv' 72 q = if i ≤ q ∧ q < n then cvR nt (iv 69 q) else iv 72 q := by
  intro k
  induction k with
  | zero =>
    intro i iv hi
    have : i = n := by omega
    subst this
    rw [sg299_79, if_pos (nI_le (by omega) (by omega)), if_neg hb]
    exact ⟨iv, rfl, fun _ _ => rfl, fun q => by rw [if_neg (by omega)]⟩
  | succ k ih =>
    intro i iv hi
    obtain ⟨iv', a1, a2, a3⟩ := ih (i + 1) (upd2 iv 72 i (cvR nt (iv 69 i))) (by omega)
    refine ⟨iv', ?_, (fr_upd _ _ _ (by simp)).tr a2, fun q => ?_⟩
    · rw [sg299_79, if_neg (nI_ge (by omega) (by omega)), if_neg hb, if_pos (inb_nI (by omega) (by omega)), if_pos (inb_nI (by omega) (by omega)), if_pos (inb_nI (by omega) (by omega)), nI_clamp (by omega), nI_add]
      unfold cvR at a1
      by_cases e : iv 69 i = nI nt
      · rw [if_pos e] at a1 ⊢; exact a1
      · rw [if_neg e] at a1 ⊢; rw [if_pos (inb_nI (by omega) (by omega))]; exact a1
    · rw [a3 q, upd2_off _ _ _ _ (by decide)]
      by_cases e : q = i
      · subst e; rw [if_neg (by omega), if_pos (by omega), upd2_self]
      · rw [upd2_ne _ _ _ _ (fun z => e z.2)]
        by_cases e2 : i ≤ q ∧ q < n
        · rw [if_pos e2, if_pos (by omega)]
        · rw [if_neg e2, if_neg (by omega)]
/-- what the reference's search leaves -/
def govQ (X : XE) (d : Nat) (im lw : List (Option Nat)) (tl : List XC) (n nt p : Nat) (iv : Nat → Nat → Int32) (lv : Nat → Nat → Int64) (o : Option Lf) (T : Option XR) : Prop := ∃ iv' lv' w5 w6, T = run X (call X xT (d + 7)) false 1 xc299 26 [some (.inr (.inr (some 46))), some (.inl (nI n)), some (.inl (nI nt)), some (.inl (gB n o)), some (.inl (nI p + (-1))), w5, w6] [] (SS im lw tl, iv', lv') ∧ frG [69, 72] iv iv' ∧ agN lv lv' ∧ (∀ i, i < p → iv' 69 i = iv 69 i) ∧ rowG n nt (iv' 72) o
theorem m_gov (X : XE) (d : Nat) (im lw : List (Option Nat)) (tl : List XC) {f : Sc} {l : Lw} {n nt : Nat} (hn : n ≤ 6) (hnt : nt ≤ 4) : ∀ (m p : Nat), p + m = n → ∀ (iv : Nat → Nat → Int32) (lv : Nat → Nat → Int64) (r : Sc) (c : Nat) (o : Option Lf) (w5 w6 : Option XV), (m ≠ 0 → iv 69 p = -1) → c = cnt r nt p → (∀ i, i < p → iv 69 i = r i) → iv 46 20 = nI 0 → lawG (iv 48) l.1 l.2 → okS (fM (iv 48)) → eqS f (fM (iv 48)) → rowG n nt (iv 72) o → govQ X d im lw tl n nt p iv lv (bst o (lev (nt + 1) (govS f l nt) m p r c)) (run X (call X xT (d + 7)) false 1 xc299 26 [some (.inr (.inr (some 46))), some (.inl (nI n)), some (.inl (nI nt)), some (.inl (gB n o)), some (.inl (nI p)), w5, w6] [] (SS im lw tl, iv, lv)) := by
  intro m
  induction m with
  | zero =>
    intro p hp iv lv r c o w5 w6 h69 hc hr h20 hl hk he ho
    have : p = n := by omega
    subst this
    have cl := cnt_le r nt p
    show govQ X d im lw tl p nt p iv lv (bst1 o (c, r)) _
    have g := m_gcnt X (call X xT (d + 7)) im lw tl iv lv hn (nt := nt) hr (gB p o) (nI p) p 0 (by omega)
    rw [sg299_26, if_neg (nI_pos (by omega)), if_pos rfl]
    rw [show 0 - cnt r nt 0 = 0 from rfl] at g
    rw [g, ← hc]
    rcases gB_lt hn (show c ≤ p by omega) (fun b hb => (ho b hb).1) with ⟨b1, b2⟩ | ⟨b1, b, b2, b3⟩
    · rw [b2 r]
      obtain ⟨iv1, a1, a2, a3⟩ := m_gcp X (call X xT (d + 7)) im lw tl lv hn (nt := nt) (v3 := gB p o) (v5 := nI (p - c)) (fun e => (Int32.not_lt.mpr e) b1) (nI p) p 0 iv (by omega)
      refine ⟨iv1, lv, _, _, a1, fun a k h1 h2 => by rw [a2 a (by simp at h1 ⊢; omega)], fun _ _ _ _ _ => rfl, fun i hi => by rw [a2 69 (by decide)], fun b hb => ?_⟩
      injection hb with hb; subst hb
      exact ⟨by show c ≤ p; omega, fun i hi => by rw [a3 i, if_pos (by omega), hr i hi]⟩
    · have le : nI (p - c) ≤ gB p o := Int32.not_lt.mp b1
      subst b2
      rw [show bst1 (some b) (c, r) = some b from if_neg (by omega)]
      refine ⟨iv, lv, some (.inl (nI (p - c))), some (.inl (nI 0)), ?_, fun _ _ _ _ => rfl, fun _ _ _ _ _ => rfl, fun _ _ => rfl, ho⟩
      by_cases c0 : p = 0
      · subst c0
        rw [sg299_79, if_pos (nI_le (by omega) (by omega)), if_pos le]
      · rw [sg299_79, if_neg (nI_ge (by omega) (by omega)), if_pos le, if_pos le]
  | succ m ih =>
    intro p hp iv lv r c o w5 w6 h69 hc hr h20 hl hk he ho
    have cl := cnt_le r nt p
    have pn : ¬ nI p = nI n := fun e => by have := congrArg Int32.toNatClampNeg e; rw [nI_clamp (by omega), nI_clamp (by omega)] at this; omega
    have loop : ∀ (k j : Nat), j + k = nt + 1 → ∀ (iv : Nat → Nat → Int32) (lv : Nat → Nat → Int64) (o : Option Lf) (w5 w6 : Option XV), iv 69 p = nI j - nI 1 → (∀ i, i < p → iv 69 i = r i) → iv 46 20 = nI 0 → lawG (iv 48) l.1 l.2 → okS (fM (iv 48)) → eqS f (fM (iv 48)) → rowG n nt (iv 72) o → govQ X d im lw tl n nt p iv lv (bst o (levI (lev (nt + 1) (govS f l nt) m (p + 1)) (govS f l nt p) p r c k j)) (run X (call X xT (d + 7)) false 1 xc299 26 [some (.inr (.inr (some 46))), some (.inl (nI n)), some (.inl (nI nt)), some (.inl (gB n o)), some (.inl (nI p)), w5, w6] [] (SS im lw tl, iv, lv)) := by
      intro k
      induction k with
      | zero =>
        intro j hj iv lv o w5 w6 h69 hr h20 hl hk he ho
        have ej : nI j - nI 1 + nI 1 = nI j := Int32.sub_add_cancel _ _
        rw [sg299_26, if_neg (nI_pos (by omega)), if_neg pn, if_pos (inb_nI (by omega) (by omega)), if_pos (inb_nI (by omega) (by omega)), if_pos (inb_nI (by omega) (by omega)), nI_clamp (by omega), upd2_self, h69, ej, if_neg (nI_ge (by omega) (by omega))]
        exact ⟨_, _, _, _, rfl, frG_upd _ _ _ (by simp), fun _ _ _ _ _ => rfl, fun i hi => upd2_ne _ _ _ _ (by omega), by rw [upd2_off _ _ _ _ (by decide)]; exact ho⟩
      | succ k ik =>
        intro j hj iv lv o w5 w6 h69 hr h20 hl hk he ho
        have ej : nI j - nI 1 + nI 1 = nI j := Int32.sub_add_cancel _ _
        rw [sg299_26, if_neg (nI_pos (by omega)), if_neg pn, if_pos (inb_nI (by omega) (by omega)), if_pos (inb_nI (by omega) (by omega)), if_pos (inb_nI (by omega) (by omega)), nI_clamp (by omega), upd2_self, h69, ej, if_pos (nI_le (by omega) (by omega)), if_pos (inb_nI (by omega) (by omega))]
        have off : ∀ a, a ≠ 69 → (upd2 iv 69 p (nI j)) a = iv a := fun a ha => upd2_off _ _ _ _ ha
        have r69 : ∀ i, i < p → (upd2 iv 69 p (nI j)) 69 i = r i := fun i hi => by rw [upd2_ne _ _ _ _ (by omega)]; exact hr i hi
        simp only [levI]
        rw [bst_app]
        -- the place taken, and on
        have go : ∀ (x : Nat) (iv1 : Nat → Nat → Int32) (lv1 : Nat → Nat → Int64), frG [69, 72] iv iv1 → agN lv lv1 → iv1 69 p = nI j → (∀ i, i < p → iv1 69 i = r i) → iv1 72 = iv 72 → c + x = cnt (pu r p (nI j)) nt (p + 1) → govQ X d im lw tl n nt p iv lv (bst (bst o (lev (nt + 1) (govS f l nt) m (p + 1) (pu r p (nI j)) (c + x))) (levI (lev (nt + 1) (govS f l nt) m (p + 1)) (govS f l nt p) p r c k (j + 1))) (run X (call X xT (d + 7)) false 1 xc299 26 [some (.inr (.inr (some 46))), some (.inl (nI n)), some (.inl (nI nt)), some (.inl (gB n o)), some (.inl (nI (p + 1))), w5, w6] [] (SS im lw tl, upd2 iv1 69 (p + 1) (-1), lv1)) := by
          intro x iv1 lv1 g1 g2 g3 g4 g5 g6
          have z : ∀ a, a ≠ 69 → (upd2 iv1 69 (p + 1) (-1)) a = iv1 a := fun a ha => upd2_off _ _ _ _ ha
          have q48 : iv1 48 = iv 48 := frG_row g1 (by decide) (by decide)
          have q46 : iv1 46 20 = iv 46 20 := g1 46 20 (by decide) (by omega)
          obtain ⟨iv2, lv2, u5, u6, a1, a2, a3, a4, a5⟩ := ih (p + 1) (by omega) (upd2 iv1 69 (p + 1) (-1)) lv1 (pu r p (nI j)) (c + x) o w5 w6 (fun _ => upd2_self _ _ _ _) g6 (fun i hi => by
            rw [upd2_ne _ _ _ _ (by omega)]
            by_cases e : i = p
            · subst e; rw [g3, pu_s]
            · rw [g4 i (by omega), pu_n _ _ _ e]) (by rw [z 46 (by decide), q46]; exact h20) (by rw [z 48 (by decide), q48]; exact hl) (by rw [z 48 (by decide), q48]; exact hk) (by rw [z 48 (by decide), q48]; exact he) (by rw [z 72 (by decide), g5]; exact ho)
          have ep : nI (p + 1) + (-1) = nI p := by rw [← nI_add, Int32.add_assoc, show (nI 1 : Int32) + (-1) = 0 by decide, Int32.add_zero]
          rw [ep] at a1
          rw [a1]
          have F : frG [69, 72] iv iv2 := (g1.tr (frG_upd _ _ _ (by simp))).tr a2
          have s48 : iv2 48 = iv 48 := frG_row F (by decide) (by decide)
          have s69 : ∀ i, i < p → iv2 69 i = r i := fun i hi => by rw [a4 i (by omega), upd2_ne _ _ _ _ (by omega), g4 i hi]
          obtain ⟨iv3, lv3, t5, t6, b1, b2, b3, b4, b5⟩ := ik (j + 1) (by omega) iv2 lv2 (bst o (lev (nt + 1) (govS f l nt) m (p + 1) (pu r p (nI j)) (c + x))) u5 u6 (by rw [a4 p (by omega), upd2_ne _ _ _ _ (by omega), g3, ← nI_add]; exact (Int32.add_sub_cancel _ _).symm) s69 (by rw [F 46 20 (by decide) (by omega)]; exact h20) (by rw [s48]; exact hl) (by rw [s48]; exact hk) (by rw [s48]; exact he) a5
          exact ⟨iv3, lv3, t5, t6, b1, F.tr b2, (g2.tr a3).tr b3, fun i hi => by rw [b4 i hi, s69 i hi, hr i hi], b5⟩
        by_cases cj : j = nt
        · subst cj
          rw [if_pos rfl, nI_add, if_pos (inb_nI (by omega) (by omega)), nI_clamp (by omega), show govS f l j p j r = some 1 from if_pos rfl]
          exact go 1 (upd2 iv 69 p (nI j)) lv (frG_upd _ _ _ (by simp)) (fun _ _ _ _ _ => rfl) (upd2_self _ _ _ _) r69 (off 72 (by decide)) (by rw [cnt_pu r p j j (by omega) (by omega), if_pos rfl, hc])
        · have nj : ¬ nI j = nI nt := fun e => cj (nI_inj8 j (by omega) nt (by omega) e)
          have fit := m_gfit X d im lw tl (f := f) (l := l) (p := p) (j := j) (show p < 6 by omega) (show j < nt by omega) hnt (r := r) p 0 (upd2 iv 69 p (nI j)) lv (by omega) (upd2_self _ _ _ _) r69 (by rw [off 46 (by decide)]; exact h20) (by rw [off 48 (by decide)]; exact hl) (by rw [off 48 (by decide)]; exact hk) (by rw [off 48 (by decide)]; exact he)
          obtain ⟨iv1, lv1, a1, a2, a3⟩ := fit
          have a1 : run X (call X xT (d + 6)) false 4 xc300 12 [some (.inr (.inr (some 46))), some (.inl (nI p)), some (.inl (nI j)), some (.inl (nI 0)), some (.inl (nI 0))] [] (SS im lw tl, upd2 iv 69 p (nI j), lv) = _ := a1
          rw [if_neg nj, tr300, if_pos (inb_nI (by omega) (by omega)), nI_clamp (by omega), upd2_self, a1, bI_some, sg299_191, b2i_ite]
          have F1 : frG [69, 72] iv iv1 := (frG_upd _ _ _ (by simp)).tr a2.G
          have e69 : iv1 69 = (upd2 iv 69 p (nI j)) 69 := a2.row (by omega)
          have e48 : iv1 48 = iv 48 := frG_row F1 (by decide) (by decide)
          have e72 : iv1 72 = iv 72 := by rw [a2.row (by omega), off 72 (by decide)]
          have gs : govS f l nt p j r = if govM f l j p = true ∧ cnt r j p < 2 then some 0 else none := if_neg cj
          by_cases cf : (decide (cnt r j p < 2) && govM f l j p) = true
          · have cf' := Bool.and_eq_true_iff.mp cf
            rw [if_pos cf, nI_add, if_pos (inb_nI (by omega) (by omega)), nI_clamp (by omega), gs, if_pos ⟨cf'.2, of_decide_eq_true cf'.1⟩]
            exact go 0 iv1 lv1 F1 a3 (by rw [e69, upd2_self]) (fun i hi => by rw [e69]; exact r69 i hi) e72 (by rw [cnt_pu r p j nt (by omega) (by omega), if_neg cj, hc])
          · have gn : ¬ (govM f l j p = true ∧ cnt r j p < 2) := fun e => cf (by rw [decide_eq_true e.2, e.1]; rfl)
            rw [if_neg cf, gs, if_neg gn]
            obtain ⟨iv3, lv3, t5, t6, b1, b2, b3, b4, b5⟩ := ik (j + 1) (by omega) iv1 lv1 o w5 w6 (by rw [e69, upd2_self, ← nI_add]; exact (Int32.add_sub_cancel _ _).symm) (fun i hi => by rw [e69]; exact r69 i hi) (by rw [F1 46 20 (by decide) (by omega)]; exact h20) (by rw [e48]; exact hl) (by rw [e48]; exact hk) (by rw [e48]; exact he) (by rw [e72]; exact ho)
            exact ⟨iv3, lv3, t5, t6, b1, F1.tr b2, a3.tr b3, fun i hi => by rw [b4 i hi, e69, r69 i hi, hr i hi], b5⟩
    exact loop (nt + 1) 0 (by omega) iv lv o w5 w6 (by rw [h69 (by omega)]; decide) hr h20 hl hk he ho
