/-! image, back: the class's part -/
def CSpec2 (k : Nat) (as : XS) (F : St → Int32 × St) : Prop := ∀ (X : XE) (_ : XOK X) (d : Nat) (im lw : List (Option Nat)) (tl : List XC) (iv : Nat → Nat → Int32) (lv : Nat → Nat → Int64) (A : St), RelC A im lw tl iv → OKA A → (SS im lw tl).length ≤ 500000 → ∃ im' lw' tl' iv' lv', call X xT (d + 40) k (.inr (.inr (some 0)) :: as) (SS im lw tl, iv, lv) = some (some (.inl (F A).1), (SS im' lw' tl', iv', lv')) ∧ RelC (F A).2 im' lw' tl' iv' ∧ midI iv iv' ∧ midL lv lv' ∧ (SS im' lw' tl').length ≤ (SS im lw tl).length + 10 ∧ slt (SS im' lw' tl') ≤ slt (SS im lw tl) + 1000
theorem step_of2 {kc km : Nat} {as : XS} {F : St → Int32 × St} (hc : CSpec2 kc as F) (hm : MSpec km as F) (ho : ∀ A, OKA A → OKA (F A).2) : stepOK kc km as := by
  intro X hX d im lw tl iv lv A h hlen
  obtain ⟨h1, h2, h3⟩ := h
  obtain ⟨im', lw', tl', iv1, lv1, a1, a2, a3, a4, a5, a6⟩ := hc X hX d im lw tl iv lv A h1 h3 hlen
  obtain ⟨iv2, lv2, b1, b2, b3⟩ := hm X d im' lw' tl' iv1 lv1 A (h2.mid a3 a4) h3
  exact ⟨_, _, im', lw', tl', iv2, lv2, (F A).2, a1, b1, ⟨a2.out b3, b2, ho A h3⟩, a5, a6⟩
def CR2 (im lw : List (Option Nat)) (tl : List XC) (iv : Nat → Nat → Int32) (lv : Nat → Nat → Int64) (r : Option XR) (p : Int32 × St) : Prop := ∃ im' lw' tl' iv' lv', r = some (some (.inl p.1), (SS im' lw' tl', iv', lv')) ∧ RelC p.2 im' lw' tl' iv' ∧ midI iv iv' ∧ midL lv lv' ∧ (SS im' lw' tl').length ≤ (SS im lw tl).length + 10 ∧ slt (SS im' lw' tl') ≤ slt (SS im lw tl) + 1000
theorem CR2_of {im lw : List (Option Nat)} {tl : List XC} {iv : Nat → Nat → Int32} {lv : Nat → Nat → Int64} {r : Option XR} {p : Int32 × St} (h : CR' im lw tl iv lv r p) : CR2 im lw tl iv lv r p := by
  obtain ⟨iv', lv', h1, h2, h3, h4⟩ := h
  exact ⟨im, lw, tl, iv', lv', h1, h2, h3, h4, by omega, by omega⟩
theorem SS_app (im lw : List (Option Nat)) (tl : List XC) : SS im lw tl = SS im lw [] ++ tl := rfl
theorem SS_len (im lw : List (Option Nat)) (tl : List XC) : (SS im lw tl).length = 79 + tl.length := by rw [SS_app, List.length_append]; rfl
theorem SS_set (im lw : List (Option Nat)) (tl : List XC) (b : Nat) (c : XC) : (SS im lw tl).set (79 + b) c = SS im lw (tl.set b c) := by
  rw [SS_app, List.set_append_right _ _ (by show 79 ≤ 79 + b; omega), SS_app im lw (tl.set b c)]
  show _ ++ tl.set (79 + b - 79) c = _
  rw [show 79 + b - 79 = b by omega]
theorem SS_get (im lw im' lw' : List (Option Nat)) (tl tl' : List XC) {a : Nat} (h : 79 ≤ a) (e : tl'[a - 79]? = tl[a - 79]?) : (SS im' lw' tl')[a]? = (SS im lw tl)[a]? := by
  rw [SS_app im' lw' tl', SS_app im lw tl, List.getElem?_append_right (by exact h), List.getElem?_append_right (by exact h)]
  exact e
theorem slt_cat (A B : List XC) : slt (A ++ B) = slt A + slt B := by simp [slt]
theorem slt_SS (im lw im' lw' : List (Option Nat)) (tl tl' : List XC) (h : slt tl' ≤ slt tl + 1000) : slt (SS im' lw' tl') ≤ slt (SS im lw tl) + 1000 := by
  rw [SS_app im' lw' tl', SS_app im lw tl, slt_cat, slt_cat, show slt (SS im' lw' []) = slt (SS im lw []) from rfl]; omega
theorem rsOK.mo {S S' : List XC} {rs : List (Option Nat)} (h : rsOK S rs) (e : ∀ (a n : Nat) (l : List (Option Nat)), S[a]? = some (5, n, l) → S'[a]? = S[a]?) : rsOK S' rs := fun k r hk hr => by
  obtain ⟨h1, n, l, h2⟩ := h k r hk hr
  exact ⟨h1, n, l, (e r n l h2).trans h2⟩
theorem imgS.mo {S S' : List XC} {b : Nat} {rs : List (Option Nat)} (h : imgS S b rs) (e : ∀ a, b ≤ a → a < b + 7 → S'[a]? = S[a]?) (hk : rsOK S' rs) : imgS S' b rs := by
  obtain ⟨h1, h2, h3, h4, h5, h6, h7, h8, h9, h10, -⟩ := h
  exact ⟨(e _ (by omega) (by omega)).trans h1, (e _ (by omega) (by omega)).trans h2, (e _ (by omega) (by omega)).trans h3, (e _ (by omega) (by omega)).trans h4, (e _ (by omega) (by omega)).trans h5, (e _ (by omega) (by omega)).trans h6, (e _ (by omega) (by omega)).trans h7, h8, h9, h10, hk⟩
theorem worldC.mo {P P' : Nat → Prop} {S S' : List XC} {iv iv' : Nat → Nat → Int32} {a c de dc fc : Nat} {rs : List (Option Nat)} {w : Wd} (h : worldC P S iv a c de dc fc rs w) (hl : S.length ≤ S'.length) (hP : ∀ x, x < S.length → P x → P' x) (e : ∀ x, x < S.length → P x → S'[x]? = S[x]? ∧ iv' x = iv x) (e1 : iv' a = iv a) (e2 : iv' c = iv c) (e3 : iv' de = iv de) (e4 : iv' dc = iv dc) (e5 : iv' fc = iv fc) : worldC P' S' iv' a c de dc fc rs w := by
  obtain ⟨h1, h2, h3, h4, h5, h6, h7⟩ := h
  refine ⟨by rw [e2]; exact h1, by rw [e3]; exact h2, by rw [e4]; exact h3, by rw [e5]; exact h4, by rw [e1]; exact h5, by rw [e1]; exact h6, fun k hk => ?_⟩
  obtain ⟨r, q1, q2, q3⟩ := h7 k hk
  exact ⟨r, q1, q2, q3.mo hl hP e⟩
/-- a world copied, as both sides hold it -/
theorem worldC.cpy {P P' : Nat → Prop} {S S' : List XC} {iv iv' : Nat → Nat → Int32} {a c de dc fc a2 c2 de2 dc2 fc2 : Nat} {rs : List (Option Nat)} {w : Wd} (h : worldC P S iv a c de dc fc rs w) (hl : S.length ≤ S'.length) (hP : ∀ x, x < S.length → P x → P' x) (e : ∀ x, x < S.length → P x → S'[x]? = S[x]? ∧ iv' x = iv x) (e2 : ∀ j, j < 59 → iv' c2 j = iv c j) (e3 : iv' de2 1 = iv de 1) (e4 : ∀ j, j < 40 → iv' dc2 j = iv dc j) (e5 : ∀ j, j < 6 → iv' fc2 j = iv fc j) (e6 : iv' a2 4 = iv a 4) (e7 : iv' a2 5 = iv a 5) : worldC P' S' iv' a2 c2 de2 dc2 fc2 rs w := by
  obtain ⟨h1, h2, h3, h4, h5, h6, h7⟩ := h
  refine ⟨fun j hj => (e2 j hj).trans (h1 j hj), e3.trans h2, fun j hj => (e4 j hj).trans (h3 j hj), fun j hj => (e5 j hj).trans (h4 j hj), e6.trans h5, e7.trans h6, fun k hk => ?_⟩
  obtain ⟨r, q1, q2, q3⟩ := h7 k hk
  exact ⟨r, q1, q2, q3.mo hl hP e⟩
theorem imgS.w {S : List XC} {b : Nat} {rs : List (Option Nat)} (h : imgS S b rs) : wS S b (b + 1) (b + 2) (b + 3) (b + 4) (b + 5) (b + 6) rs := by
  obtain ⟨h1, h2, h3, h4, h5, h6, h7, h8, h9, h10, -⟩ := h
  exact ⟨h1, h2, h3, h4, h5, h6, h7, h8, by omega, by omega, by omega⟩
theorem SS_w (im lw : List (Option Nat)) (tl : List XC) (h : lw.length = 6) : wS (SS im lw tl) 1 2 3 4 5 6 7 lw := ⟨rfl, rfl, rfl, rfl, rfl, rfl, rfl, h, by decide, by decide, by decide⟩
theorem C_back (k : Int32) : CSpec2 191 [.inl k] (sp_back k) := by
  intro X hX d im lw tl iv lv A h ho hlen
  show CR2 im lw tl iv lv _ _
  rw [tr191, c_within X (d + 38), bI_some, sg191_5, b2i_ite]
  unfold sp_back
  cases hx : inV k (nI 1)
  · rw [if_neg (by decide), if_neg (by decide)]
    exact CR2_of (crf h (i := 0) (by decide) (by rw [c_rf0 hX, bI_some, sg191_13]))
  rw [if_pos rfl, if_pos rfl]
  obtain ⟨n, hn, rfl⟩ := inV_of (by decide) hx
  rw [if_pos (inb_nI (by omega) (by omega)), nI_clamp (by omega)]
  rcases h.2.2.1.1 n (by omega) with ⟨q1, q2⟩ | ⟨w, b, rs, q1, q2, q3, q4⟩
  · rw [q1, q2, if_pos (by decide)]
    exact CR2_of (crf h (i := 1) (by decide) (by rw [c_rf1 hX, bI_some, sg191_31]))
  rw [q1, q2, if_pos (show lowR (some b) = true from by have := q3.2.2.2.2.2.2.2.2.2.1; simp [lowR]; omega)]
  have hb1 : b < 1000000 := by have := q3.2.2.2.2.2.2.2.2.2.1; omega
  have hb : 79 ≤ b := q3.2.2.2.2.2.2.2.2.1
  show CR2 im lw tl iv lv (if b < 1000000 then bV (call X xT (d + 39) 189 [.inr (.inr (some 1)), .inr (.inr (some b))] (SS im lw tl, iv, lv)) _ else none) _
  obtain ⟨iv', c1, c2, c3, c4, c5, c6, c7, c8⟩ := c_wcopy (X := X) (d := d + 37) iv lv (SS_w im lw tl h.1.2.1) q3.w q3.2.2.2.2.2.2.2.2.2.2 (by omega) (by omega) (by omega) (by omega) (by omega) (by omega)
  rw [if_pos hb1, c1, bV_some]
  show CR2 im lw tl iv lv (run X _ false 1 xc191 40 _ [] (SS im rs tl, iv', lv)) _
  rw [sg191_40, tr20, bV_some, sg191_47, tr22, bI_some, sg191_52]
  have e : ∀ a, a ≠ 1 → a ≠ 3 → a ≠ 4 → a ≠ 5 → a ≠ 6 → iv' a = iv a := fun a x1 x2 x3 x4 x5 => c8 a (by simp [x1, x2, x3, x4, x5])
  have eS : ∀ a, 79 ≤ a → (SS im rs tl)[a]? = (SS im lw tl)[a]? := fun a ha => SS_get _ _ _ _ _ _ ha rfl
  have eK : ∀ r, rsOK (SS im lw tl) r → rsOK (SS im rs tl) r := fun r hr => hr.mo (fun a n l ha => by
    show ((SS im lw tl).set 7 (54, 6, rs))[a]? = _
    rw [List.getElem?_set_ne (ne_k (show (SS im lw tl)[7]? = some (54, 6, lw) from rfl) ha (by show (54 : Nat) ≠ 5; decide))])
  have r1 : RelC (w, A.2) im rs tl iv' := by
    obtain ⟨g0, g1, g2, g3, g4, g5, g6⟩ := h
    have ll : (SS im lw tl).length ≤ (SS im rs tl).length := Nat.le_refl _
    refine ⟨⟨g0.1, q3.2.2.2.2.2.2.2.1, eK rs q3.2.2.2.2.2.2.2.2.2.2⟩, q4.cpy ll (fun _ _ h => h) (fun x _ hx => ⟨eS x hx.1, e x (by have := hx.1; omega) (by have := hx.1; omega) (by have := hx.1; omega) (by have := hx.1; omega) (by have := hx.1; omega)⟩) c2 c3 c4 c5 c6 c7, ⟨fun i hi => ?_, g2.2⟩, ?_, ?_, ?_, ?_⟩
    · rcases g2.1 i hi with q | ⟨w', b', rs', p1, p2, p3, p4⟩
      · exact Or.inl q
      · have hb' : 79 ≤ b' := p3.2.2.2.2.2.2.2.2.1
        have e79 : ∀ a, 79 ≤ a → iv' a = iv a := fun a ha => e a (by omega) (by omega) (by omega) (by omega) (by omega)
        exact Or.inr ⟨w', b', rs', p1, p2, p3.mo (fun a ha _ => eS a (by omega)) (eK rs' p3.2.2.2.2.2.2.2.2.2.2), p4.mo ll (fun _ _ h => h) (fun x _ hx => ⟨eS x hx.1, e79 x hx.1⟩) (e79 _ hb') (e79 _ (by omega)) (e79 _ (by omega)) (e79 _ (by omega)) (e79 _ (by omega))⟩
    · rw [e 9 (by decide) (by decide) (by decide) (by decide) (by decide), e 10 (by decide) (by decide) (by decide) (by decide) (by decide)]; exact g3
    · exact g4.fr (e _ (by decide) (by decide) (by decide) (by decide) (by decide)) (e _ (by decide) (by decide) (by decide) (by decide) (by decide)) (e _ (by decide) (by decide) (by decide) (by decide) (by decide))
    · rw [e 41 (by decide) (by decide) (by decide) (by decide) (by decide)]; exact g5
    · unfold miscC; rw [e 11 (by decide) (by decide) (by decide) (by decide) (by decide), e 0 (by decide) (by decide) (by decide) (by decide) (by decide), e 45 (by decide) (by decide) (by decide) (by decide) (by decide)]; exact g6
  refine ⟨im, rs, tl, _, lv, rfl, (r1.clr).st (nI 0), ?_, midL.rf, ?_, slt_SS _ _ _ _ _ _ (by omega)⟩
  · exact (c8.mid (by simp)).tr ((mid_upd _ _ _ (by decide)).tr ((mid_upd _ _ _ (by decide)).tr (mid_upd _ _ _ (by decide))))
  · rw [SS_len, SS_len]; omega
theorem S_back (k : Int32) : stepOK 191 202 [.inl k] := step_of2 (C_back k) (M_back k) (O_back k)
/-- image -/
theorem tr188g (X : XE) (d : Nat) (im lw : List (Option Nat)) (tl : List XC) (iv : Nat → Nat → Int32) (lv : Nat → Nat → Int64) (p : Int32) : call X xT (d + 1) 188 [.inr (.inr (some 0)), .inl p] (SS im lw tl, iv, lv) = bI (call X xT d 15 [.inl p, .inl (nI 1)] (SS im lw tl, iv, lv)) (fun r h => run X (call X xT d) false 1 xc188 5 [some (.inr (.inr (some 0))), some (.inl p), none] [.inl r] h) := call_seg rfl (Nat.le_of_ble_eq_true rfl) (chk_pos xk188) [5] 10 rfl
theorem sg188_5g (X : XE) (cl : XCl) (im lw : List (Option Nat)) (tl : List XC) (iv : Nat → Nat → Int32) (lv : Nat → Nat → Int64) (p u : Int32) : run X cl false 1 xc188 5 [some (.inr (.inr (some 0))), some (.inl p), none] [.inl u] (SS im lw tl, iv, lv) = if u = 0 then bI (cl 16 [.inr (.inr (some 0)), .inl (-1)] (SS im lw tl, iv, lv)) (fun r h => run X cl false 1 xc188 13 [some (.inr (.inr (some 0))), some (.inl p), none] [.inl r] h) else run X cl false 1 xc188 14 [some (.inr (.inr (some 0))), some (.inl p), none] [] (SS im lw tl, iv, lv) := seg_of (chk_pos xk188) [13, 14] 10 rfl
theorem sg188_13g (X : XE) (cl : XCl) (S : List XC) (iv : Nat → Nat → Int32) (lv : Nat → Nat → Int64) (p u : Int32) (ls : XL) : run X cl false 1 xc188 13 ls [.inl u] (S, iv, lv) = some (some (.inl u), (S, iv, lv)) := seg_of (chk_pos xk188) [] 10 rfl
theorem sg188_14g (X : XE) (cl : XCl) (im lw : List (Option Nat)) (tl : List XC) (iv : Nat → Nat → Int32) (lv : Nat → Nat → Int64) (p : Int32) : run X cl false 1 xc188 14 [some (.inr (.inr (some 0))), some (.inl p), none] [] (SS im lw tl, iv, lv) = if inb p 2 = true then if lowR (im.getD p.toNatClampNeg none) = true then run X cl false 1 xc188 20 [some (.inr (.inr (some 0))), some (.inl p), none] [.inr (.inr (im.getD p.toNatClampNeg none))] (SS im lw tl, iv, lv) else none else none := seg_of (chk_pos xk188) [20] 10 rfl
theorem sg188_20s (X : XE) (cl : XCl) (S : List XC) (iv : Nat → Nat → Int32) (lv : Nat → Nat → Int64) (p : Int32) (b : Nat) : run X cl false 1 xc188 20 [some (.inr (.inr (some 0))), some (.inl p), none] [.inr (.inr (some b))] (S, iv, lv) = if b < 1000000 then run X cl false 1 xc188 40 [some (.inr (.inr (some 0))), some (.inl p), some (.inr (.inr (some b)))] [] (S, iv, lv) else none := seg_of (chk_pos xk188) [40] 10 rfl
theorem sg188_20n (X : XE) (cl : XCl) (S : List XC) (iv : Nat → Nat → Int32) (lv : Nat → Nat → Int64) (p : Int32) : run X cl false 1 xc188 20 [some (.inr (.inr (some 0))), some (.inl p), none] [.inr (.inr none)] (S, iv, lv) = objR (S ++ [(9, 6, n6r)]) (some S.length) 9 (fun a1 => bV (cl 2 [.inr (.inr (some a1))] (S ++ [(9, 6, n6r)], upr iv S.length zI, upr lv S.length zL)) (fun h => run X cl false 1 xc188 32 [some (.inr (.inr (some 0))), some (.inl p), some (.inr (.inr none))] [.inr (.inr (some S.length))] h)) := seg_of (chk_pos xk188) [32] 10 rfl
theorem sg188_32g (X : XE) (cl : XCl) (S : List XC) (iv : Nat → Nat → Int32) (lv : Nat → Nat → Int64) (p : Int32) (b : Nat) : run X cl false 1 xc188 32 [some (.inr (.inr (some 0))), some (.inl p), some (.inr (.inr none))] [.inr (.inr (some b))] (S, iv, lv) = obj S (some 0) 10 1 (fun _ c => arrR S (c.2.2.getD 1 none) p (fun a rs c' => if fitR S c'.1 (some b) = true ∧ p.toNatClampNeg < rs.length then run X cl false 1 xc188 40 [some (.inr (.inr (some 0))), some (.inl p), some (.inr (.inr (some b)))] [] (S.set a (c'.1, c'.2.1, rs.set p.toNatClampNeg (some b)), iv, lv) else none)) := seg_of (chk_pos xk188) [40] 10 rfl
theorem sg188_40g (X : XE) (cl : XCl) (S : List XC) (iv : Nat → Nat → Int32) (lv : Nat → Nat → Int64) (p : Int32) (b : Nat) : run X cl false 1 xc188 40 [some (.inr (.inr (some 0))), some (.inl p), some (.inr (.inr (some b)))] [] (S, iv, lv) = obj S (some 0) 10 0 (fun _ c => objR S (some b) 9 (fun a' => bV (cl 189 [.inr (.inr (some a')), .inr (.inr (c.2.2.getD 0 none))] (S, iv, lv)) (fun h => run X cl false 1 xc188 48 [some (.inr (.inr (some 0))), some (.inl p), some (.inr (.inr (some b)))] [] h))) := seg_of (chk_pos xk188) [48] 10 rfl
theorem sg188_48g (X : XE) (cl : XCl) (im lw : List (Option Nat)) (tl : List XC) (iv : Nat → Nat → Int32) (lv : Nat → Nat → Int64) (p : Int32) (b : Nat) : run X cl false 1 xc188 48 [some (.inr (.inr (some 0))), some (.inl p), some (.inr (.inr (some b)))] [] (SS im lw tl, iv, lv) = bI (cl 22 [.inr (.inr (some 0)), .inl (nI 0)] (SS im lw tl, iv, lv)) (fun r h => run X cl false 1 xc188 53 [some (.inr (.inr (some 0))), some (.inl p), some (.inr (.inr (some b)))] [.inl r] h) := seg_of (chk_pos xk188) [53] 10 rfl
theorem sg188_53g (X : XE) (cl : XCl) (S : List XC) (iv : Nat → Nat → Int32) (lv : Nat → Nat → Int64) (u : Int32) (ls : XL) : run X cl false 1 xc188 53 ls [.inl u] (S, iv, lv) = some (some (.inl u), (S, iv, lv)) := seg_of (chk_pos xk188) [] 10 rfl
/-- the copying end of image: an image at b of cells that hold no law -/
theorem img_end {X : XE} {d : Nat} {im lw : List (Option Nat)} {tl : List XC} {iv : Nat → Nat → Int32} {lv : Nat → Nat → Int64} {A : St} {n b : Nat} {rs : List (Option Nat)} (hn : n < 2) (h0 : (im.length = 2 ∧ lw.length = 6 ∧ rsOK (SS im lw tl) lw)) (h1 : worldC (PZ im) (SS im lw tl) iv 1 3 4 5 6 lw A.1) (hb : im.getD n none = some b) (hi : imgS (SS im lw tl) b rs) (ho : ∀ k, k < 2 → k ≠ n → (A.2.1 k = none ∧ im.getD k none = none) ∨ ∃ w b' rs, A.2.1 k = some w ∧ im.getD k none = some b' ∧ imgS (SS im lw tl) b' rs ∧ worldC (PZ im) (SS im lw tl) iv b' (b' + 2) (b' + 3) (b' + 4) (b' + 5) rs w) (hd : ∀ b b', im.getD 0 none = some b → im.getD 1 none = some b' → b + 7 ≤ b' ∨ b' + 7 ≤ b) (h3 : iv 9 1 = nI A.2.2.1.1 ∧ ∀ j, j < A.2.2.1.1 → iv 10 j = A.2.2.1.2 j) (h4 : logC iv 30 31 32 A.2.2.2.1) (h5 : ∀ j, j < 59 → iv 41 j = A.2.2.2.2.1 j) (h6 : miscC iv A.2.2.2.2.2) : ∃ tl' iv', run X (call X xT (d + 2)) false 1 xc188 40 [some (.inr (.inr (some 0))), some (.inl (nI n)), some (.inr (.inr (some b)))] [] (SS im lw tl, iv, lv) = some (some (.inl (nI 0)), (SS im lw tl', iv', lv)) ∧ RelC (stS (stI A n) (nI 0)) im lw tl' iv' ∧ midI iv iv' ∧ tl'.length = tl.length ∧ slt tl' = slt tl := by
  have hb79 : 79 ≤ b := hi.2.2.2.2.2.2.2.2.1
  have hw := hi.w
  obtain ⟨iv', c1, c2, c3, c4, c5, c6, c7, c8⟩ := c_wcopy (X := X) (d := d) iv lv hw (SS_w im lw tl h0.2.1) h0.2.2 (by omega) (by omega) (by omega) (by omega) (by omega) (by omega)
  rw [sg188_40g, obj_ok (show (SS im lw tl)[0]? = _ from rfl) rfl (by show 0 < 18; omega), objR_ok hw.1 rfl]
  show ∃ tl' iv'', bV (call X xT (d + 2) 189 [.inr (.inr (some b)), .inr (.inr (some 1))] (SS im lw tl, iv, lv)) _ = _ ∧ _
  rw [c1, bV_some, show b + 6 = 79 + (b + 6 - 79) by omega, SS_set, sg188_48g, tr22, bI_some, sg188_53g]
  have ht7 : tl[b + 6 - 79]? = some (54, 6, rs) := by
    have := hw.2.2.2.2.2.2.1
    rw [SS_app, List.getElem?_append_right (by show 79 ≤ b + 6; omega)] at this
    exact this
  have hin : some b ∈ im := by
    rw [List.getD_eq_getElem?_getD] at hb
    cases hx : im[n]? with
    | none => rw [hx] at hb; cases hb
    | some y => rw [hx] at hb; have hb : y = some b := hb; rw [hb] at hx; exact List.mem_of_getElem? hx
  have eS : ∀ a, a ≠ b + 6 → (SS im lw (tl.set (b + 6 - 79) (54, 6, lw)))[a]? = (SS im lw tl)[a]? := fun a ha => by
    rw [← SS_set, show 79 + (b + 6 - 79) = b + 6 by omega, List.getElem?_set_ne (Ne.symm ha)]
  have eK : ∀ r, rsOK (SS im lw tl) r → rsOK (SS im lw (tl.set (b + 6 - 79) (54, 6, lw))) r := fun r hr => rsOK.mo hr (fun a n l ha => eS a (Ne.symm (ne_k hw.2.2.2.2.2.2.1 ha (by show (54 : Nat) ≠ 5; decide))))
  have e : ∀ a, (a < b ∨ b + 7 ≤ a) → iv' a = iv a := fun a ha => c8 a (by simp; omega)
  have hP : ∀ x, PZ im x → (x < b ∨ b + 7 ≤ x) := fun x hx => hx.2 b hin
  have ll : (SS im lw tl).length ≤ (SS im lw (tl.set (b + 6 - 79) (54, 6, lw))).length := by rw [SS_len, SS_len, List.length_set]; omega
  have eP : ∀ x, x < (SS im lw tl).length → PZ im x → (SS im lw (tl.set (b + 6 - 79) (54, 6, lw)))[x]? = (SS im lw tl)[x]? ∧ iv' x = iv x := fun x _ hx => ⟨eS x (by have := hP x hx; omega), e x (hP x hx)⟩
  refine ⟨_, _, rfl, RelC.st (A := stI A n) ⟨⟨h0.1, h0.2.1, eK lw h0.2.2⟩, h1.mo ll (fun _ _ h => h) eP (e _ (by omega)) (e _ (by omega)) (e _ (by omega)) (e _ (by omega)) (e _ (by omega)), ⟨fun k hk => ?_, hd⟩, ?_, ?_, ?_, ?_⟩ (nI 0), ?_, by rw [List.length_set], slt_set ht7 rfl⟩
  · show ((if k = n then some A.1 else A.2.1 k) = none ∧ _) ∨ ∃ w b rs, (if k = n then some A.1 else A.2.1 k) = some w ∧ _
    by_cases c : k = n
    · subst c
      refine Or.inr ⟨A.1, b, lw, by rw [if_pos rfl], hb, ?_, h1.cpy ll (fun _ _ h => h) eP c2 c3 c4 c5 c6 c7⟩
      obtain ⟨i1, i2, i3, i4, i5, i6, i7, i8, i9, i10, i11⟩ := hi
      refine ⟨(eS _ (by omega)).trans i1, (eS _ (by omega)).trans i2, (eS _ (by omega)).trans i3, (eS _ (by omega)).trans i4, (eS _ (by omega)).trans i5, (eS _ (by omega)).trans i6, ?_, h0.2.1, i9, i10, eK lw h0.2.2⟩
      rw [← SS_set, show 79 + (b + 6 - 79) = b + 6 by omega]
      exact set_s i7 _
    · rw [if_neg c]
      rcases ho k hk c with q | ⟨w, b', rs', p1, p2, p3, p4⟩
      · exact Or.inl q
      · have hb' : 79 ≤ b' := p3.2.2.2.2.2.2.2.2.1
        have dj : b + 7 ≤ b' ∨ b' + 7 ≤ b := by
          have : n = 0 ∧ k = 1 ∨ n = 1 ∧ k = 0 := by omega
          rcases this with ⟨x, y⟩ | ⟨x, y⟩
          · subst x; subst y; exact hd b b' hb p2
          · subst x; subst y; exact (hd b' b p2 hb).symm
        exact Or.inr ⟨w, b', rs', p1, p2, p3.mo (fun a _ _ => eS a (by omega)) (eK rs' p3.2.2.2.2.2.2.2.2.2.2), p4.mo ll (fun _ _ h => h) eP (e _ (by omega)) (e _ (by omega)) (e _ (by omega)) (e _ (by omega)) (e _ (by omega))⟩
  · rw [e 9 (by omega), e 10 (by omega)]; exact h3
  · exact h4.fr (e _ (by omega)) (e _ (by omega)) (e _ (by omega))
  · rw [e 41 (by omega)]; exact h5
  · unfold miscC; rw [e 11 (by omega), e 0 (by omega), e 45 (by omega)]; exact h6
  · exact fun a h1 h2 => (upd2_off _ _ _ _ (by omega)).trans (e a (by omega))
theorem wIv_lo (iv : Nat → Nat → Int32) {b a : Nat} (h : a < b) : wIv iv b a = iv a := by
  unfold wIv
  rw [upr_off _ _ _ (by omega), upd2_off _ _ _ _ (by omega), upr_off _ _ _ (by omega), upr_off _ _ _ (by omega), upr_off _ _ _ (by omega), upr_off _ _ _ (by omega), upr_off _ _ _ (by omega), upr_off _ _ _ (by omega)]
theorem wLv_lo (lv : Nat → Nat → Int64) {b a : Nat} (h : a < b) : wLv lv b a = lv a := by
  unfold wLv
  rw [upr_off _ _ _ (by omega), upr_off _ _ _ (by omega), upr_off _ _ _ (by omega), upr_off _ _ _ (by omega), upr_off _ _ _ (by omega), upr_off _ _ _ (by omega)]
theorem getD_set2 {im : List (Option Nat)} {n k : Nat} (x : Option Nat) (hn : n < im.length) : (im.set n x).getD k none = if k = n then x else im.getD k none := getD_set im n x k hn
theorem mem_set {im : List (Option Nat)} {n b c : Nat} (h : some c ∈ im.set n (some b)) : c = b ∨ some c ∈ im := by
  rcases List.mem_or_eq_of_mem_set h with h | h
  · exact Or.inr h
  · injection h with h; exact Or.inl h
theorem C_image (k : Int32) : CSpec2 188 [.inl k] (sp_image k) := by
  intro X hX d im lw tl iv lv A h ho hlen
  show CR2 im lw tl iv lv _ _
  rw [tr188g, c_within X (d + 38), bI_some, sg188_5g, b2i_ite]
  unfold sp_image
  cases hx : inV k (nI 1)
  · rw [if_neg (by decide), if_neg (by decide)]
    exact CR2_of (crf h (i := 0) (by decide) (by rw [c_rf0 hX, bI_some, sg188_13g]; exact k))
  rw [if_pos rfl, if_pos rfl]
  obtain ⟨n, hn, rfl⟩ := inV_of (by decide) hx
  rw [sg188_14g, if_pos (inb_nI (by omega) (by omega)), nI_clamp (by omega)]
  obtain ⟨g0, g1, g2, g3, g4, g5, g6⟩ := h
  rcases g2.1 n (by omega) with ⟨q1, q2⟩ | ⟨w, b, rs, q1, q2, q3, q4⟩
  · rw [q2, if_pos (by decide), sg188_20n, objR_ok (c := (9, 6, n6r)) (app_r _ _) rfl, c_newWorld (X := X) (d := d + 37) _ _ _ (by omega), bV_some]
    have hl : (SS im lw tl).length = 79 + tl.length := SS_len _ _ _
    generalize hB : (SS im lw tl).length = b at hl hlen
    have hget : ∀ a, a < b → (SS im lw tl ++ wCells b n6r)[a]? = (SS im lw tl)[a]? := fun a ha => by rw [List.getElem?_append_left (by omega)]
    have hnew : ∀ i c, (wCells b n6r)[i]? = some c → (SS im lw tl ++ wCells b n6r)[b + i]? = some c := fun i c hc => by rw [← hB]; exact lst_r (by rw [hB]; exact hc)
    have hn0 : (SS im lw tl ++ wCells b n6r)[b]? = some (9, 6, [some (b + 1), some (b + 3), some (b + 5), some (b + 6), none, none]) := hnew 0 _ rfl
    rw [sg188_32g, obj_ok (show (SS im lw tl ++ wCells b n6r)[0]? = _ from rfl) rfl (by show 1 < 18; omega)]
    show CR2 im lw tl iv lv (arrR (SS im lw tl ++ wCells b n6r) (some 8) (nI n) _) _
    have h8 : (SS im lw tl ++ wCells b n6r)[8]? = some (53, 2, im) := rfl
    have ar : ∀ {ρ : Type} (kk : Nat → List (Option Nat) → XC → Option ρ), arrR (SS im lw tl ++ wCells b n6r) (some 8) (nI n) kk = kk 8 im (53, 2, im) := fun kk => by
      simp only [arrR, h8]
      rw [if_pos (Or.inl trivial), if_pos (inb_nI (by omega) (by omega))]
    rw [ar, nI_clamp (by omega), if_pos ⟨by simp [fitR, hn0], by rw [g0.1]; omega⟩]
    show CR2 im lw tl iv lv (run X _ false 1 xc188 40 _ [] (SS (im.set n (some b)) lw (tl ++ wCells b n6r), _, _)) _
    have eS : ∀ a, a < b → a ≠ 8 → (SS (im.set n (some b)) lw (tl ++ wCells b n6r))[a]? = (SS im lw tl)[a]? := fun a ha h8 => by
      show ((SS im lw tl ++ wCells b n6r).set 8 (53, 2, im.set n (some b)))[a]? = _
      rw [List.getElem?_set_ne (Ne.symm h8)]; exact hget a ha
    have eN : ∀ i c, (wCells b n6r)[i]? = some c → (SS (im.set n (some b)) lw (tl ++ wCells b n6r))[b + i]? = some c := fun i c hc => by
      show ((SS im lw tl ++ wCells b n6r).set 8 (53, 2, im.set n (some b)))[b + i]? = _
      rw [List.getElem?_set_ne (by omega)]; exact hnew i c hc
    have eK : ∀ r, rsOK (SS im lw tl) r → rsOK (SS (im.set n (some b)) lw (tl ++ wCells b n6r)) r := fun r hr => rsOK.mo hr (fun a n l ha => eS a (by rw [← hB]; exact getE_lt ha) (Ne.symm (ne_k (show (SS im lw tl)[8]? = some (53, 2, im) from rfl) ha (by show (53 : Nat) ≠ 5; decide))))
    have e : ∀ a, a < b → wIv (upr iv b zI) b a = iv a := fun a ha => by rw [wIv_lo _ ha, upr_off _ _ _ (by omega)]
    have eP : ∀ x, x < (SS im lw tl).length → PZ im x → (SS (im.set n (some b)) lw (tl ++ wCells b n6r))[x]? = (SS im lw tl)[x]? ∧ wIv (upr iv b zI) b x = iv x := fun x hx hp => ⟨eS x (by omega) (by have := hp.1; omega), e x (by omega)⟩
    have hP : ∀ x, x < (SS im lw tl).length → PZ im x → PZ (im.set n (some b)) x := fun x hx hp => ⟨hp.1, fun c hc => by
      rcases mem_set hc with q | q
      · exact Or.inl (by omega)
      · exact hp.2 c q⟩
    have ll : (SS im lw tl).length ≤ (SS (im.set n (some b)) lw (tl ++ wCells b n6r)).length := by rw [SS_len, SS_len, List.length_append]; omega
    have hil : n < im.length := by rw [g0.1]; omega
    have im7 : ∀ k, k < 2 → ∀ c, im.getD k none = some c → c + 7 ≤ b ∧ 79 ≤ c := fun k hk c hc => by
      rcases g2.1 k hk with ⟨-, p2⟩ | ⟨-, b', rs', -, p2, p3, -⟩
      · rw [p2] at hc; cases hc
      · rw [p2] at hc; injection hc with hc; subst hc
        have := getE_lt p3.2.2.2.2.2.2.1
        exact ⟨by omega, p3.2.2.2.2.2.2.2.2.1⟩
    obtain ⟨tl', iv', z1, z2, z3, z4, z5⟩ := img_end (X := X) (d := d + 37) (im := im.set n (some b)) (lw := lw) (tl := tl ++ wCells b n6r) (iv := wIv (upr iv b zI) b) (lv := wLv (upr lv b zL) b) (A := A) (n := n) (b := b) (rs := n6r) (by omega) ⟨by rw [List.length_set]; exact g0.1, g0.2.1, eK lw g0.2.2⟩ (g1.mo ll hP eP (e _ (by omega)) (e _ (by omega)) (e _ (by omega)) (e _ (by omega)) (e _ (by omega))) (by rw [getD_set2 _ hil, if_pos rfl])
      ⟨eN 0 _ rfl, eN 1 _ rfl, eN 2 _ rfl, eN 3 _ rfl, eN 4 _ rfl, eN 5 _ rfl, eN 6 _ rfl, rfl, by omega, by omega, fun k r hk hr => by
        have : k = 0 ∨ k = 1 ∨ k = 2 ∨ k = 3 ∨ k = 4 ∨ k = 5 := by omega
        rcases this with x | x | x | x | x | x <;> subst x <;> cases hr⟩
      (fun k hk c => by
        rw [getD_set2 _ hil, if_neg c]
        rcases g2.1 k hk with q | ⟨w, b', rs', p1, p2, p3, p4⟩
        · exact Or.inl q
        · have hb' := im7 k hk b' p2
          exact Or.inr ⟨w, b', rs', p1, p2, p3.mo (fun a _ _ => eS a (by omega) (by omega)) (eK rs' p3.2.2.2.2.2.2.2.2.2.2), p4.mo ll hP eP (e _ (by omega)) (e _ (by omega)) (e _ (by omega)) (e _ (by omega)) (e _ (by omega))⟩)
      (fun c c' hc hc' => by
        rw [getD_set2 _ hil] at hc hc'
        have : n = 0 ∨ n = 1 := by omega
        rcases this with x | x
        · subst x
          rw [if_pos rfl] at hc; injection hc with hc; subst hc
          rw [if_neg (by decide)] at hc'
          exact Or.inr (im7 1 (by omega) c' hc').1
        · subst x
          rw [if_pos rfl] at hc'; injection hc' with hc'; subst hc'
          rw [if_neg (by decide)] at hc
          exact Or.inl (im7 0 (by omega) c hc).1)
      (by rw [e 9 (by omega), e 10 (by omega)]; exact g3) (g4.fr (e _ (by omega)) (e _ (by omega)) (e _ (by omega))) (by rw [e 41 (by omega)]; exact g5) (by unfold miscC; rw [e 11 (by omega), e 0 (by omega), e 45 (by omega)]; exact g6)
    refine ⟨im.set n (some b), lw, tl', iv', _, z1, z2, ?_, ?_, ?_, ?_⟩
    · exact fun a h1 h2 => (z3 a h1 h2).trans (e a (by omega))
    · exact fun a h1 h2 => (wLv_lo _ (by omega)).trans (upr_off _ _ _ (by omega))
    · rw [SS_len, SS_len, z4, List.length_append]; show 79 + (tl.length + 7) ≤ _; omega
    · refine slt_SS _ _ _ _ _ _ ?_
      rw [z5, slt_cat]; show slt tl + 120 ≤ _; omega
  · have hb1 := q3.2.2.2.2.2.2.2.2.2.1
    rw [q2, if_pos (show lowR (some b) = true from by simp [lowR]; omega), sg188_20s, if_pos (by omega)]
    obtain ⟨tl', iv', z1, z2, z3, z4, z5⟩ := img_end (X := X) (d := d + 37) (lv := lv) (A := A) (n := n) (by omega) g0 g1 q2 q3 (fun k hk _ => g2.1 k hk) g2.2 g3 g4 g5 g6
    exact ⟨im, lw, tl', iv', lv, z1, z2, z3, midL.rf, by rw [SS_len, SS_len, z4]; omega, slt_SS _ _ _ _ _ _ (by omega)⟩
theorem S_image (k : Int32) : stepOK 188 200 [.inl k] := step_of2 (C_image k) (M_image k) (O_image k)
