/-! THE STATE, and what both objects hold of it -/
abbrev Sc : Type := Nat → Int32
abbrev Lw : Type := (Nat → CL) × Nat
/-- a world: scene, deeds, feuds, laws, the law in force -/
abbrev Wd : Type := Sc × (Nat × Sc) × Sc × (Nat × (Nat → Lw)) × Int32
/-- world, images, tape, undos, what was drawn; fault, stopped, saucers, status, refusals -/
abbrev St : Type := Wd × (Nat → Option Wd) × (Nat × Sc) × List (Int32 × Sc) × Sc × (Int32 × Int32 × Int32 × Int32 × Sc)
def nP (f : Sc) : Nat := (f 0).toNatClampNeg
def nT (f : Sc) : Nat := (f 1).toNatClampNeg
def memZ (f : Sc) : Prop := ∀ t p, t < 4 → p < 6 → (nT f ≤ t ∨ nP f ≤ p) → f (35 + (t * 6 + p)) = nI 0
def okF (f : Sc) : Prop := okS f ∧ memZ f
def deedsOk (f : Sc) (dn : Nat) (dd : Sc) : Prop := dn ≤ 10 ∧ ∀ i, i < dn → ∃ t p k, t < nT f ∧ p < nP f ∧ k ≤ 2 ∧ dd (4 * i + 1) = nI t ∧ dd (4 * i + 2) = nI p ∧ dd (4 * i + 3) = nI k
def feudOk (f : Sc) (fe : Sc) : Prop := ∃ m : Nat → Nat, (∀ p, p < 6 → fe p = nI (m p) ∧ m p < 64 ∧ (nP f ≤ p → m p = 0)) ∧ ∀ p q, p < 6 → q < 6 → (m p).testBit q = (m q).testBit p
def okW (w : Wd) : Prop := okF w.1 ∧ deedsOk w.1 w.2.1.1 w.2.1.2 ∧ feudOk w.1 w.2.2.1 ∧ w.2.2.2.1.1 ≤ 6 ∧ (w.2.2.2.2 = -1 ∨ ∃ k, k < w.2.2.2.1.1 ∧ w.2.2.2.2 = nI k)
/-- two scenes with the same provinces, tamers and nerves -/
def statE (f g : Sc) : Prop := g 0 = f 0 ∧ g 1 = f 1 ∧ ∀ t, t < 4 → g (23 + t) = f (23 + t)
def okU (f : Sc) (U : List (Int32 × Sc)) : Prop := U.length ≤ 16 ∧ ∀ e, e ∈ U → okF e.2 ∧ statE f e.2 ∧ ∃ k, k ≤ 3 ∧ e.1 = nI k
def okT (T : Nat × Sc) : Prop := T.1 ≤ 400 ∧ ∀ j, j < T.1 → ∃ b, b < 256 ∧ T.2 j = nI b
def OKA (A : St) : Prop := okW A.1 ∧ (∀ k w, A.2.1 k = some w → okW w) ∧ okT A.2.2.1 ∧ okU A.1.1 A.2.2.2.1 ∧ okS A.2.2.2.2.1
/-- the law in force -/
def lawOf (w : Wd) : Lw := if w.2.2.2.2 = -1 then (fun _ => (0, fun _ => none, fun _ => none), 0) else w.2.2.2.1.2 w.2.2.2.2.toNatClampNeg
/-- a law's object, which hangs on the cells of P alone -/
def lawP (P : Nat → Prop) (S : List XC) (iv : Nat → Nat → Int32) (r : Nat) (cl : Nat → CL) (n : Nat) : Prop := ∀ S' iv', (∀ a, a < S.length → P a → S'[a]? = S[a]? ∧ iv' a = iv a) → lawC S' iv' (some r) cl n
theorem lawP.mo {P P2 : Nat → Prop} {S S2 : List XC} {iv iv2 : Nat → Nat → Int32} {r : Nat} {cl : Nat → CL} {n : Nat} (h : lawP P S iv r cl n) (hS : S.length ≤ S2.length) (hP : ∀ a, a < S.length → P a → P2 a) (e : ∀ a, a < S.length → P a → S2[a]? = S[a]? ∧ iv2 a = iv a) : lawP P2 S2 iv2 r cl n := by
  intro S' iv' h2
  refine h S' iv' (fun a ha hp => ?_)
  have e1 := e a ha hp
  have e2 := h2 a (by omega) (hP a ha hp)
  exact ⟨e2.1.trans e1.1, e2.2.trans e1.2⟩
/-- where laws lie -/
def PZ (im : List (Option Nat)) (a : Nat) : Prop := 79 ≤ a ∧ ∀ b, some b ∈ im → a < b ∨ b + 7 ≤ a
/-- a world of the class -/
def worldC (P : Nat → Prop) (S : List XC) (iv : Nat → Nat → Int32) (a c de dc fc : Nat) (rs : List (Option Nat)) (w : Wd) : Prop :=
  (∀ j, j < 59 → iv c j = w.1 j) ∧ iv de 1 = nI w.2.1.1 ∧ (∀ j, j < 40 → iv dc j = w.2.1.2 j) ∧ (∀ p, p < 6 → iv fc p = w.2.2.1 p) ∧ iv a 4 = nI w.2.2.2.1.1 ∧ iv a 5 = w.2.2.2.2 ∧
  ∀ k, k < w.2.2.2.1.1 → ∃ r, rs.getD k none = some r ∧ r < 1000000 ∧ lawP P S iv r (w.2.2.2.1.2 k).1 (w.2.2.2.1.2 k).2
/-- an array of laws: each is none, or an object of its kind -/
def rsOK (S : List XC) (rs : List (Option Nat)) : Prop := ∀ k r, k < 6 → rs.getD k none = some r → r < 1000000 ∧ ∃ n l, S[r]? = some (5, n, l)
def imgS (S : List XC) (b : Nat) (rs : List (Option Nat)) : Prop :=
  S[b]? = some (9, 6, [some (b + 1), some (b + 3), some (b + 5), some (b + 6), none, none]) ∧ S[b + 1]? = some (7, 1, [some (b + 2)]) ∧ S[b + 2]? = some (50, 59, []) ∧ S[b + 3]? = some (0, 2, [some (b + 4), none]) ∧ S[b + 4]? = some (50, 40, []) ∧ S[b + 5]? = some (50, 6, []) ∧ S[b + 6]? = some (54, 6, rs) ∧ rs.length = 6 ∧ 79 ≤ b ∧ b + 7 < 1000000 ∧ rsOK S rs
def logC (iv : Nat → Nat → Int32) (a b c : Nat) (U : List (Int32 × Sc)) : Prop := ∃ nx, nx < 16 ∧ iv a 2 = nI nx ∧ iv a 3 = nI U.length ∧ ∀ i e, U[i]? = some e → iv c ((nx + 15 - i) % 16) = e.1 ∧ ∀ j, j < 59 → iv b ((nx + 15 - i) % 16 * 59 + j) = e.2 j
def imgsC (im : List (Option Nat)) (S : List XC) (iv : Nat → Nat → Int32) (I : Nat → Option Wd) : Prop :=
  (∀ k, k < 2 → (I k = none ∧ im.getD k none = none) ∨ ∃ w b rs, I k = some w ∧ im.getD k none = some b ∧ imgS S b rs ∧ worldC (PZ im) S iv b (b + 2) (b + 3) (b + 4) (b + 5) rs w) ∧ (∀ b b', im.getD 0 none = some b → im.getD 1 none = some b' → b + 7 ≤ b' ∨ b' + 7 ≤ b)
def miscC (iv : Nat → Nat → Int32) (M : Int32 × Int32 × Int32 × Int32 × Sc) : Prop := iv 11 8 = M.1 ∧ iv 0 16 = M.2.1 ∧ iv 0 15 = M.2.2.1 ∧ iv 0 17 = M.2.2.2.1 ∧ ∀ i, i < 5 → iv 45 i = M.2.2.2.2 i
def RelC (A : St) (im lw : List (Option Nat)) (tl : List XC) (iv : Nat → Nat → Int32) : Prop :=
  (im.length = 2 ∧ lw.length = 6 ∧ rsOK (SS im lw tl) lw) ∧ worldC (PZ im) (SS im lw tl) iv 1 3 4 5 6 lw A.1 ∧ imgsC im (SS im lw tl) iv A.2.1 ∧ (iv 9 1 = nI A.2.2.1.1 ∧ ∀ j, j < A.2.2.1.1 → iv 10 j = A.2.2.1.2 j) ∧ logC iv 30 31 32 A.2.2.2.1 ∧ (∀ j, j < 59 → iv 41 j = A.2.2.2.2.1 j) ∧ miscC iv A.2.2.2.2.2
/-- a world in a row of the reference -/
def rowM (g : Sc) (w : Wd) : Prop := eqS w.1 (fM g) ∧ g 2 = nI w.2.1.1 ∧ (∀ j, j < 40 → g (68 + j) = w.2.1.2 j) ∧ (∀ p, p < 6 → g (62 + p) = w.2.2.1 p) ∧ g 3 = nI w.2.2.2.1.1 ∧ g 4 = w.2.2.2.2 ∧ ∀ k, k < w.2.2.2.1.1 → lawM g (110 + 900 * k) (w.2.2.2.1.2 k).1 (w.2.2.2.1.2 k).2
def ux (j : Nat) : Nat := if j < 21 then j + 2 else j + 6
def undoM (iv : Nat → Nat → Int32) (U : List (Int32 × Sc)) : Prop := iv 46 8 = nI U.length ∧ ∀ i e, U[i]? = some e → iv 52 (U.length - 1 - i) = e.1 ∧ ∀ j, j < 53 → iv 51 (53 * (U.length - 1 - i) + j) = e.2 (ux j)
def imgsM (iv : Nat → Nat → Int32) (I : Nat → Option Wd) : Prop := ∀ k, k < 2 → (I k = none ∧ iv 50 k = nI 0) ∨ ∃ w, I k = some w ∧ iv 50 k = nI 1 ∧ rowM (fun i => iv 49 (5510 * k + i)) w
def drawnM (iv : Nat → Nat → Int32) (D : Sc) : Prop := (iv 46 58 = -1 ∧ iv 46 59 = -1 ∧ D 0 = nI 0 ∧ D 1 = nI 0) ∨ (iv 46 58 = D 0 ∧ iv 46 59 = D 1 ∧ ∀ j, j < 53 → iv 78 j = D (ux j))
def miscM (iv : Nat → Nat → Int32) (M : Int32 × Int32 × Int32 × Int32 × Sc) : Prop := iv 46 18 = M.1 ∧ iv 46 54 = M.2.1 ∧ iv 46 11 = M.2.2.1 ∧ iv 46 1 = M.2.2.2.1 ∧ iv 47 1 = M.2.2.2.2 0 ∧ iv 47 2 = M.2.2.2.2 1 ∧ iv 47 3 = M.2.2.2.2 2 ∧ iv 47 5 = M.2.2.2.2 3 ∧ iv 47 6 = M.2.2.2.2 4
def wK : List Nat := [21017778, 569609861221, 290921650, 676774066, 441892441, 14863045, 431156, 21154, 4153, 441828]
def oK : List Nat := [4153, 146885, 404362868, 290921650, 676774066, 431156, 51635]
def hK : List Nat := [48469587, 9309492819, 526131, 67155]
def aK : List Nat := [3736683, 201892, 442053, 525939]
def constM (lv : Nat → Nat → Int64) : Prop := (∀ j, j < 10 → lv 61 j = lN (wK.getD j 0)) ∧ (∀ j, j < 7 → lv 62 j = lN (oK.getD j 0)) ∧ (∀ j, j < 4 → lv 63 j = lN (hK.getD j 0)) ∧ (∀ j, j < 4 → lv 76 j = lN (aK.getD j 0))
def RelM (A : St) (iv : Nat → Nat → Int32) (lv : Nat → Nat → Int64) : Prop :=
  rowM (iv 48) A.1 ∧ imgsM iv A.2.1 ∧ (iv 46 13 = nI A.2.2.1.1 ∧ ∀ j, j < A.2.2.1.1 → iv 55 j = A.2.2.1.2 j) ∧ undoM iv A.2.2.2.1 ∧ drawnM iv A.2.2.2.2.1 ∧ miscM iv A.2.2.2.2.2 ∧ iv 46 20 = nI 0 ∧ constM lv
def Rel (A : St) (im lw : List (Option Nat)) (tl : List XC) (iv : Nat → Nat → Int32) (lv : Nat → Nat → Int64) : Prop := RelC A im lw tl iv ∧ RelM A iv lv ∧ OKA A
def midI (iv iv' : Nat → Nat → Int32) : Prop := ∀ a, 46 ≤ a → a < 79 → iv' a = iv a
def midL (lv lv' : Nat → Nat → Int64) : Prop := ∀ a, 46 ≤ a → a < 79 → lv' a = lv a
def outI (iv iv' : Nat → Nat → Int32) : Prop := ∀ a, (a < 46 ∨ 79 ≤ a) → iv' a = iv a
/-- the cells that the class's part speaks of -/
def ncC : List Nat := [0, 1, 3, 4, 5, 6, 9, 10, 11, 30, 31, 32, 41, 45]
theorem worldC.fr {P : Nat → Prop} {S : List XC} {iv iv' : Nat → Nat → Int32} {a c de dc fc : Nat} {rs : List (Option Nat)} {w : Wd} (h : worldC P S iv a c de dc fc rs w) (e1 : iv' a = iv a) (e2 : iv' c = iv c) (e3 : iv' de = iv de) (e4 : iv' dc = iv dc) (e5 : iv' fc = iv fc) (eP : ∀ x, P x → iv' x = iv x) : worldC P S iv' a c de dc fc rs w := by
  obtain ⟨h1, h2, h3, h4, h5, h6, h7⟩ := h
  refine ⟨by rw [e2]; exact h1, by rw [e3]; exact h2, by rw [e4]; exact h3, by rw [e5]; exact h4, by rw [e1]; exact h5, by rw [e1]; exact h6, fun k hk => ?_⟩
  obtain ⟨r, q1, q2, q3⟩ := h7 k hk
  exact ⟨r, q1, q2, q3.mo (Nat.le_refl _) (fun _ _ h => h) (fun x _ hx => ⟨rfl, eP x hx⟩)⟩
theorem imgsC.fr {im : List (Option Nat)} {S : List XC} {iv iv' : Nat → Nat → Int32} {I : Nat → Option Wd} (h : imgsC im S iv I) (e : ∀ a, 79 ≤ a → iv' a = iv a) : imgsC im S iv' I := by
  refine ⟨fun k hk => ?_, h.2⟩
  rcases h.1 k hk with q | ⟨w, b, rs, q1, q2, q3, q4⟩
  · exact Or.inl q
  · have hb : 79 ≤ b := q3.2.2.2.2.2.2.2.2.1
    exact Or.inr ⟨w, b, rs, q1, q2, q3, q4.fr (e _ hb) (e _ (by omega)) (e _ (by omega)) (e _ (by omega)) (e _ (by omega)) (fun x hx => e x hx.1)⟩
theorem logC.fr {iv iv' : Nat → Nat → Int32} {a b c : Nat} {U : List (Int32 × Sc)} (h : logC iv a b c U) (e1 : iv' a = iv a) (e2 : iv' b = iv b) (e3 : iv' c = iv c) : logC iv' a b c U := by
  unfold logC
  rw [e1, e2, e3]
  exact h
theorem RelC.fr {A : St} {im lw : List (Option Nat)} {tl : List XC} {iv iv' : Nat → Nat → Int32} (h : RelC A im lw tl iv) (e : ∀ a, a ∈ ncC → iv' a = iv a) (e2 : ∀ a, 79 ≤ a → iv' a = iv a) : RelC A im lw tl iv' := by
  obtain ⟨h0, h1, h2, h3, h4, h5, h6⟩ := h
  refine ⟨h0, ?_, h2.fr e2, ?_, ?_, ?_, ?_⟩
  · exact h1.fr (e _ (by decide)) (e _ (by decide)) (e _ (by decide)) (e _ (by decide)) (e _ (by decide)) (fun x hx => e2 x hx.1)
  · rw [e 9 (by decide), e 10 (by decide)]; exact h3
  · exact h4.fr (e _ (by decide)) (e _ (by decide)) (e _ (by decide))
  · rw [e 41 (by decide)]; exact h5
  · unfold miscC; rw [e 11 (by decide), e 0 (by decide), e 45 (by decide)]; exact h6
theorem RelC.out {A : St} {im lw : List (Option Nat)} {tl : List XC} {iv iv' : Nat → Nat → Int32} (h : RelC A im lw tl iv) (e : outI iv iv') : RelC A im lw tl iv' := h.fr (fun a ha => e a (by simp [ncC] at ha; omega)) (fun a ha => e a (by omega))
theorem RelM.mid {A : St} {iv iv' : Nat → Nat → Int32} {lv lv' : Nat → Nat → Int64} (h : RelM A iv lv) (e : midI iv iv') (e2 : midL lv lv') : RelM A iv' lv' := by
  obtain ⟨h1, h2, h3, h4, h5, h6, h7, h8⟩ := h
  have e46 := e 46 (by decide) (by decide)
  refine ⟨?_, ?_, ?_, ?_, ?_, ?_, ?_, ?_⟩
  · rw [e 48 (by decide) (by decide)]; exact h1
  · unfold imgsM; rw [e 49 (by decide) (by decide), e 50 (by decide) (by decide)]; exact h2
  · rw [e46, e 55 (by decide) (by decide)]; exact h3
  · unfold undoM; rw [e46, e 51 (by decide) (by decide), e 52 (by decide) (by decide)]; exact h4
  · unfold drawnM; rw [e46, e 78 (by decide) (by decide)]; exact h5
  · unfold miscM; rw [e46, e 47 (by decide) (by decide)]; exact h6
  · rw [e46]; exact h7
  · unfold constM; rw [e2 61 (by decide) (by decide), e2 62 (by decide) (by decide), e2 63 (by decide) (by decide), e2 76 (by decide) (by decide)]; exact h8
/-- what a call of the class does, what the reference's does -/
def XOK (X : XE) : Prop := ∃ L xs, X = lawX L xs
def CSpec (k : Nat) (as : XS) (F : St → Int32 × St) : Prop := ∀ (X : XE) (_ : XOK X) (d : Nat) (im lw : List (Option Nat)) (tl : List XC) (iv : Nat → Nat → Int32) (lv : Nat → Nat → Int64) (A : St), RelC A im lw tl iv → OKA A → ∃ iv' lv', call X xT (d + 40) k (.inr (.inr (some 0)) :: as) (SS im lw tl, iv, lv) = some (some (.inl (F A).1), (SS im lw tl, iv', lv')) ∧ RelC (F A).2 im lw tl iv' ∧ midI iv iv' ∧ midL lv lv'
def MSpec (k : Nat) (as : XS) (F : St → Int32 × St) : Prop := ∀ (X : XE) (d : Nat) (im lw : List (Option Nat)) (tl : List XC) (iv : Nat → Nat → Int32) (lv : Nat → Nat → Int64) (A : St), RelM A iv lv → OKA A → ∃ iv' lv', call X xT (d + 40) k (.inr (.inr (some 46)) :: as) (SS im lw tl, iv, lv) = some (some (.inl (F A).1), (SS im lw tl, iv', lv')) ∧ RelM (F A).2 iv' lv' ∧ outI iv iv'
/-- both answer alike, and both states go on alike -/
def stepOK (kc km : Nat) (as : XS) : Prop := ∀ (X : XE) (_ : XOK X) (d : Nat) (im lw : List (Option Nat)) (tl : List XC) (iv : Nat → Nat → Int32) (lv : Nat → Nat → Int64) (A : St), Rel A im lw tl iv lv → (SS im lw tl).length ≤ 500000 → ∃ v h1 im' lw' tl' iv' lv' A', call X xT (d + 40) kc (.inr (.inr (some 0)) :: as) (SS im lw tl, iv, lv) = some (v, h1) ∧ call X xT (d + 40) km (.inr (.inr (some 46)) :: as) h1 = some (v, (SS im' lw' tl', iv', lv')) ∧ Rel A' im' lw' tl' iv' lv' ∧ (SS im' lw' tl').length ≤ (SS im lw tl).length + 10 ∧ slt (SS im' lw' tl') ≤ slt (SS im lw tl) + 1000
theorem step_of {kc km : Nat} {as : XS} {F : St → Int32 × St} (hc : CSpec kc as F) (hm : MSpec km as F) (ho : ∀ A, OKA A → OKA (F A).2) : stepOK kc km as := by
  intro X hX d im lw tl iv lv A h hlen
  obtain ⟨h1, h2, h3⟩ := h
  obtain ⟨iv1, lv1, a1, a2, a3, a4⟩ := hc X hX d im lw tl iv lv A h1 h3
  obtain ⟨iv2, lv2, b1, b2, b3⟩ := hm X d im lw tl iv1 lv1 A (h2.mid a3 a4) h3
  exact ⟨_, _, im, lw, tl, iv2, lv2, (F A).2, a1, b1, ⟨a2.out b3, b2, ho A h3⟩, by omega, by omega⟩
