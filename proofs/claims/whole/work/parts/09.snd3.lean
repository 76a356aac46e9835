theorem inb_iff {i : Int32} {n : Nat} (h : inb i n = true) : vp_in i n := by
  unfold inb at h
  simp only [Bool.and_eq_true, decide_eq_true_eq] at h
  exact fun q => q.elim h.1 (fun z => by omega)
theorem map_range_set {α : Type} (n k : Nat) (f : Nat → α) (v : α) : (List.range n).map (fun j => if j = k then v else f j) = ((List.range n).map f).set k v := by
  apply List.ext_getElem?
  intro j
  by_cases hj : j < n
  · by_cases e : j = k
    · subst e
      rw [List.getElem?_set_self (by simp; exact hj)]
      simp [hj]
    · rw [List.getElem?_set_ne (fun z => e z.symm)]
      simp [hj, e]
  · have h1 : ((List.range n).map (fun j => if j = k then v else f j))[j]? = none := by simp; omega
    have h2 : (((List.range n).map f).set k v)[j]? = none := by simp; omega
    rw [h1, h2]
theorem cFs_get {G : XG} {ci n k : Nat} {iv : Nat → Int32} {lv : Nat → Int64} {rs : List (Option Nat)} (h : k < n) : (cFs G ci n iv lv rs)[k]? = some (cF G (xty ci k) (iv k) (lv k) (rs.getD k none)) := by simp [cFs, h]
theorem cFs_len {G : XG} {ci n : Nat} {iv : Nat → Int32} {lv : Nat → Int64} {rs : List (Option Nat)} : (cFs G ci n iv lv rs).length = n := by simp [cFs]
theorem cFs_i {G : XG} {ci n k : Nat} {iv iv2 : Nat → Int32} {lv : Nat → Int64} {rs : List (Option Nat)} {x : Int32} (ht : xty ci k = 0 ∨ xty ci k = 3) (h1 : iv2 k = x) (h2 : ∀ j, j ≠ k → iv2 j = iv j) : cFs G ci n iv2 lv rs = (cFs G ci n iv lv rs).set k (.int x) := by
  unfold cFs
  rw [← map_range_set]
  apply List.map_congr_left
  intro j _
  by_cases e : j = k
  · subst e
    rw [if_pos rfl, h1]
    unfold cF
    rw [if_pos ht]
  · rw [if_neg e, h2 j e]
theorem cFs_l {G : XG} {ci n k : Nat} {iv : Nat → Int32} {lv lv2 : Nat → Int64} {rs : List (Option Nat)} {x : Int64} (ht : xty ci k = 1) (h1 : lv2 k = x) (h2 : ∀ j, j ≠ k → lv2 j = lv j) : cFs G ci n iv lv2 rs = (cFs G ci n iv lv rs).set k (.long x) := by
  unfold cFs
  rw [← map_range_set]
  apply List.map_congr_left
  intro j _
  by_cases e : j = k
  · subst e
    rw [if_pos rfl, h1]
    unfold cF
    rw [if_neg (by omega), if_pos ht]
  · rw [if_neg e, h2 j e]
theorem getD_set_self {rs : List (Option Nat)} {k : Nat} (h : k < rs.length) (x : Option Nat) : (rs.set k x).getD k none = x := by simp [List.getD_eq_getElem?_getD, h]
theorem getD_set_ne {rs : List (Option Nat)} {k j : Nat} (h : j ≠ k) (x : Option Nat) : (rs.set k x).getD j none = rs.getD j none := by simp [List.getD_eq_getElem?_getD, List.getElem?_set_ne (fun e => h e.symm)]
theorem cFs_r {G : XG} {ci n k : Nat} {iv : Nat → Int32} {lv : Nat → Int64} {rs : List (Option Nat)} {x : Option Nat} (ht : xty ci k = 2 ∨ xty ci k = 6) (hk : k < rs.length) : cFs G ci n iv lv (rs.set k x) = (cFs G ci n iv lv rs).set k (cV G (.inr (.inr x))) := by
  unfold cFs
  rw [← map_range_set]
  apply List.map_congr_left
  intro j _
  by_cases e : j = k
  · subst e
    rw [if_pos rfl, getD_set_self hk]
    unfold cF
    rw [if_neg (by omega), if_neg (by omega)]
  · rw [if_neg e, getD_set_ne e]
theorem cC_obj {G : XG} {iv : Nat → Int32} {lv : Nat → Int64} {c : XC} (h : c.1 < 50) : cC G iv lv c = .inr (c.1, cFs G c.1 c.2.1 iv lv c.2.2) := by unfold cC; rw [if_pos h]
theorem cC_i {G : XG} {iv : Nat → Int32} {lv : Nat → Int64} {c : XC} (h : c.1 = 50) : cC G iv lv c = .inl (G.2.2.1 0, c.2.1, .inl iv) := by unfold cC; simp [h]
theorem cC_l {G : XG} {iv : Nat → Int32} {lv : Nat → Int64} {c : XC} (h : c.1 = 51) : cC G iv lv c = .inl (G.2.2.1 1, c.2.1, .inr (.inl lv)) := by unfold cC; simp [h]
theorem cC_z {G : XG} {iv : Nat → Int32} {lv : Nat → Int64} {c : XC} (h : c.1 = 52) : cC G iv lv c = .inl (G.2.2.1 2, c.2.1, .inl iv) := by unfold cC; simp [h]
theorem cC_w {G : XG} {iv : Nat → Int32} {lv : Nat → Int64} {c : XC} (h : c.1 = 53) : cC G iv lv c = .inl (G.2.2.1 3, c.2.1, .inr (.inr (.inr (.inr (cRs G c.2.2))))) := by unfold cC; simp [h]
theorem cC_p {G : XG} {iv : Nat → Int32} {lv : Nat → Int64} {c : XC} (h : c.1 = 54) : cC G iv lv c = .inl (G.2.2.1 4, c.2.1, .inr (.inr (.inr (.inr (cRs G c.2.2))))) := by unfold cC; simp [h]
theorem xcl_lt {ci : Nat} {q : vw_C} (h : xcl[ci]? = some q) : ci < 50 := by
  have := (List.getElem?_eq_some_iff.mp h).1
  simp [xcl] at this
  omega
theorem cV_own {G : XG} {a : Nat} (h : a < 1000000) : cV G (.inr (.inr (some a))) = .ref (G.1 + a) := by show cR G a = _; unfold cR; rw [if_pos h]
theorem fresh {G : XG} {h : XH} {q : Nat} {x : va_E} {D : va_G} {cl : List vw_C} {H1 : Heap} (hP : va_P D cl (cW G h ++ [(q, x)]) H1) (hD : va_D (xA G) (cW G h ++ [(q, x)])) (hz : H1.size ≤ G.1 + h.1.length + 1) : q = G.1 + h.1.length := by
  have hl : (cW G h ++ [(q, x)])[h.1.length]? = some (q, x) := by
    rw [List.getElem?_append_right (by rw [cW_len]; exact Nat.le_refl _), cW_len]
    simp
  have h1 : q < H1.size := (hP _ _ hl).lt
  have h2 : G.1 ≤ q := hD.2 _ _ hl
  rcases Nat.lt_or_ge (q - G.1) h.1.length with hq | hq
  · obtain ⟨c, hc⟩ : ∃ c, h.1[q - G.1]? = some c := ⟨_, List.getElem?_eq_getElem hq⟩
    have h3 := cW_get (G := G) hc
    have h4 : (cW G h ++ [(q, x)])[q - G.1]? = some (G.1 + (q - G.1), cC G (h.2.1 (q - G.1)) (h.2.2 (q - G.1)) c) := by rw [List.getElem?_append_left (by rw [cW_len]; exact hq)]; exact h3
    have h5 := hD.1 _ _ _ _ hl h4 (by show q = G.1 + (q - G.1); omega)
    omega
  · omega
section Heap
variable {p : Program} {l : Launch} {e : Env} {R : Room} {s : State} {m : MethodId} {args : Array Value} {below : List Frame} {meth : Method} {c : Code} {Q : State → Prop} {cc : ByteArray} {nL : Nat} {own : String} {G : XG} {X : XE} {ini : Bool} {n0 s0 : Nat} {r : XR} {pc : Nat} {kn : XL → XS → XH → Option XR} {kj : Nat → XL → XS → XH → Option XR} {e2 : XP} {idx : Nat}
theorem okP_field {own : String} {idx : Nat} {e2 : XP} {q : Nat × Nat} (hp : okP own (idx, e2, q) = true) (he : e2.1 = 1) : ∃ w, xcl[e2.2.1]? = some w ∧ e2.2.2.1 < w.2.2 ∧ xty e2.2.1 e2.2.2.1 = e2.2.2.2 ∧ (Cond.fieldLink own idx w.1 (w.2.1 e2.2.2.1).2.1 (w.2.1 e2.2.2.1).2.2.1 ∈ XW ∨ (w.1 ≠ own ∧ Cond.fieldLinkNest own idx w.1 (w.2.1 e2.2.2.1).2.1 (w.2.1 e2.2.2.1).2.2.1 "TamerState" ∈ XN)) := by
  unfold okP at hp
  rw [if_pos he] at hp
  cases hw : xcl[e2.2.1]? with
  | none => simp only [hw] at hp; cases hp
  | some w =>
    simp only [hw, Bool.and_eq_true, Bool.or_eq_true, decide_eq_true_eq] at hp
    obtain ⟨⟨h1, h2⟩, h3⟩ := hp
    exact ⟨w, rfl, h1, h2, h3.elim (fun h => Or.inl (xat_in h)) (fun h => Or.inr ⟨h.1, xatN_in h.2⟩)⟩
theorem w_getf (F : Fx p s m args meth c cc nL own G X ini n0) {H : Heap} {locs : List Loc} {cells slots : Nat} {ls : Array Slot} {rest : List Value} {h : XH} {a : Nat} {cx : XC} (hc : h.1[a]? = some cx) {q : Nat × Nat} (hp : okP own (idx, e2, q) = true) (he : e2.1 = 1) (hk : cx.1 = e2.2.1 ∧ e2.2.2.1 < cx.2.1) (hd : decode cc pc = .ok (.getfield idx, 3)) (hP : va_P G.2.1 xcl (cW G h) H)
    (k : W p l e R s m args below meth c H locs cells slots Q (F0 m (pc + 3) ls (cF G e2.2.2.2 (h.2.1 a e2.2.2.1) (h.2.2 a e2.2.2.1) (cx.2.2.getD e2.2.2.1 none) :: rest))) : W p l e R s m args below meth c H locs cells slots Q (F0 m pc ls (.ref (G.1 + a) :: rest)) := by
  obtain ⟨w, hw, h1, h2, h3⟩ := okP_field hp he
  have hci := xcl_lt hw
  have hg := cW_get (G := G) hc
  rw [cC_obj (by rw [hk.1]; exact hci), hk.1] at hg
  have hv := cFs_get (G := G) (ci := e2.2.1) (iv := h.2.1 a) (lv := h.2.2 a) (rs := cx.2.2) hk.2
  rw [h2] at hv
  have hsame : ∀ x, s.fieldFound? (w.2.1 e2.2.2.1).1 (w.2.1 e2.2.2.1).2.1 (w.2.1 e2.2.2.1).2.2.1 = some x → s.fieldFound? w.1 (w.2.1 e2.2.2.1).2.1 (w.2.1 e2.2.2.1).2.2.1 = some x := by rw [(xcl_own _ _ hw _ h1).1]; exact fun x h => h
  rcases h3 with h3 | ⟨-, h3⟩
  · exact va_get F.1 F.2.1 F.2.2.2.2.1 (xcl_w _ _ hw).1 F.2.2.2.1 F.2.2.2.2.2.1 hP a hg hw _ h1 (F.2.2.2.2.1 _ h3) hsame hv hd k
  · exact va_getN F.1 F.2.1 F.2.2.2.2.1 (xcl_w _ _ hw).1 F.2.2.2.1 F.2.2.2.2.2.1 hP a hg hw _ h1 ((F.2.2.2.2.2.2.1.2.2.2.2.2.2.2.2.1 _ h3).use rfl) hsame hv hd k
theorem len_ok {h : XH} {r : XR} {a : Nat} {cx : XC} (hg : hle h r.2) (hlen : r.2.1.length ≤ 1000000) (hc : h.1[a]? = some cx) : a < 1000000 := by
  have := (List.getElem?_eq_some_iff.mp hc).1
  have := hg.1
  omega
theorem go_getfield (F : Fx p s m args meth c cc nL own G X ini n0) (hlen : r.2.1.length ≤ 1000000) (hg : ∀ L st h, kn L st h = some r → hle h r.2) (hp : e2.1 = 99 ∨ ∃ q, okP own (idx, e2, q) = true) (hd : decode cc pc = .ok (.getfield idx, 3)) (hn : Go p l e R s m args below meth c Q nL G n0 s0 r (pc + 3) kn) :
    Go p l e R s m args below meth c Q nL G n0 s0 r pc (fun L st h => unR st (fun x q => gfld h.1 h.2.1 h.2.2 x e2 (fun v => kn L (v :: q) h))) := by
  intro L st h hr ls H locs hL h0 h1 hP hS
  dsimp only [unR] at hr
  split at hr
  · rename_i x q
    unfold gfld at hr
    split at hr
    · rename_i he
      obtain ⟨qq, hp⟩ : ∃ q, okP own (idx, e2, q) = true := hp.resolve_left (by omega)
      unfold obj at hr
      split at hr
      · rename_i a
        split at hr
        · rename_i cx hc
          split at hr
          · rename_i hk
            have hty : cF G e2.2.2.2 (h.2.1 a e2.2.2.1) (h.2.2 a e2.2.2.1) (cx.2.2.getD e2.2.2.1 none) = (match e2.2.2.2 with | 0 => cV G (.inl (h.2.1 a e2.2.2.1)) | 1 => cV G (.inr (.inl (h.2.2 a e2.2.2.1))) | 3 => cV G (.inl (h.2.1 a e2.2.2.1)) | _ => cV G (.inr (.inr (cx.2.2.getD e2.2.2.1 none)))) := by
              unfold cF
              split
              · rename_i h2
                rcases h2 with h2 | h2 <;> rw [h2] <;> rfl
              · rename_i h2
                split
                · rename_i h3
                  rw [h3]; rfl
                · rename_i h3
                  split
                  · omega
                  · omega
                  · omega
                  · rfl
            have go : ∀ v : XV, kn L (v :: q) h = some r → cV G v = cF G e2.2.2.2 (h.2.1 a e2.2.2.1) (h.2.2 a e2.2.2.1) (cx.2.2.getD e2.2.2.1 none) → W p l e R s m args below meth c H locs (h.1.length - n0) (slt h.1 - s0) Q (F0 m pc ls (cV G (.inr (.inr (some a))) :: q.map (cV G))) := by
              intro v hv ev
              rw [cV_own (len_ok (hg _ _ _ hv) hlen hc)]
              refine w_getf F hc hp he hk hd hP ?_
              rw [← ev]
              exact hn _ _ _ hv ls H locs hL h0 h1 hP hS
            split at hr
            · rename_i h9; exact go _ hr (by rw [hty, h9]; rfl)
            · rename_i h9; exact go _ hr (by rw [hty, h9]; rfl)
            · rename_i h9; exact go _ hr (by rw [hty, h9]; rfl)
            · rename_i n1 n2 n3
              refine go _ hr ?_
              rw [hty]
              split
              · exact absurd ‹_› n1
              · exact absurd ‹_› n2
              · exact absurd ‹_› n3
              · rfl
          · cases hr
        · cases hr
      · cases hr
    · rename_i he
      obtain ⟨qq, hp⟩ : ∃ q, okP own (idx, e2, q) = true := hp.resolve_left (by omega)
      simp [okP, he] at hp
      split at hr
      · rename_i a
        split at hr
        · rename_i ha
          have hj : a - 1000000 = 3 ∨ a - 1000000 = 5 := by omega
          obtain ⟨t, v, g1, g2, -, g4, g5⟩ := F.2.2.2.2.2.2.1.2.2.2.2.2.1 (a - 1000000) hj
          have e1 : cV G (.inr (.inr (some a))) = .ref t := by show cR G a = _; unfold cR; rw [if_neg (by omega), g1]; rfl
          rw [List.map_cons, e1]
          split at hr
          · rename_i h9
            have hw := xat_in (hp.resolve_right (fun z => by omega)).2
            refine vk_getf F.1 F.2.1 g5 hS F.2.2.2.1 (F.2.2.2.2.1 _ hw) (fun x h => h) hd ?_
            have e3 : cV G (.inr (.inr (some (a + 1)))) = .ref v := by show cR G (a + 1) = _; unfold cR; rw [if_neg (by omega), show a + 1 - 1000000 = a - 1000000 + 1 by omega, g2]; rfl
            rw [← e3]
            exact hn _ _ _ hr ls H locs hL h0 h1 hP hS
          · rename_i h9
            have hw := xat_in (hp.resolve_left (fun z => h9 z.1)).2
            exact vk_getf F.1 F.2.1 g4 hS F.2.2.2.1 (F.2.2.2.2.1 _ hw) (fun x h => h) hd (hn _ _ _ hr ls H locs hL h0 h1 hP hS)
        · cases hr
      · cases hr
    · cases hr
  · cases hr
theorem go_ldc (F : Fx p s m args meth c cc nL own G X ini n0) (hp : e2.1 = 99 ∨ ∃ q, okP own (idx, e2, q) = true) (hd : decode cc pc = .ok (.ldc idx, 2)) (hn : Go p l e R s m args below meth c Q nL G n0 s0 r (pc + 2) kn) :
    Go p l e R s m args below meth c Q nL G n0 s0 r pc (fun L st h => match e2.1 with
    | 20 => kn L (.inl (nI e2.2.1) :: st) h
    | 22 => kn L (.inr (.inr (some (1000000 + e2.2.1))) :: st) h
    | _ => none) := by
  intro L st h hr ls H locs hL h0 h1 hP hS
  dsimp only at hr
  split at hr
  · rename_i he
    obtain ⟨qq, hp⟩ : ∃ q, okP own (idx, e2, q) = true := hp.resolve_left (by omega)
    simp [okP, he] at hp
    exact lv_ldc F.1 F.2.1 F.2.2.2.1 (F.2.2.2.2.1 _ (xat_in hp)) hd (hn _ _ _ hr ls H locs hL h0 h1 hP hS)
  · rename_i he
    obtain ⟨qq, hp⟩ : ∃ q, okP own (idx, e2, q) = true := hp.resolve_left (by omega)
    simp [okP, he] at hp
    obtain ⟨ho, hp2⟩ := hp
    subst ho
    have key : ∃ (t : Nat) (tx : String), G.2.2.2 e2.2.1 = some t ∧ vk_R "TamerState$Parser" idx tx t s := by
      rcases hp2 with ⟨rfl, h3⟩ | ⟨rfl, h3⟩
      · obtain ⟨t, g, k⟩ := F.2.2.2.2.2.2.1.2.2.2.2.2.2.1
        exact ⟨t, _, by rw [h3]; exact g, k⟩
      · obtain ⟨t, g, k⟩ := F.2.2.2.2.2.2.1.2.2.2.2.2.2.2.1
        exact ⟨t, _, by rw [h3]; exact g, k⟩
    obtain ⟨t, tx, g, k⟩ := key
    refine va_ldcS F.1 F.2.1 F.2.2.2.1 k hd ?_
    have e3 : cV G (.inr (.inr (some (1000000 + e2.2.1)))) = .ref t := by show cR G (1000000 + e2.2.1) = _; unfold cR; rw [if_neg (by omega), show 1000000 + e2.2.1 - 1000000 = e2.2.1 by omega, g]; rfl
    rw [← e3]
    exact hn _ _ _ hr ls H locs hL h0 h1 hP hS
  · cases hr
theorem go_ldcw (F : Fx p s m args meth c cc nL own G X ini n0) (hp : e2.1 = 99 ∨ ∃ q, okP own (idx, e2, q) = true) (hd : decode cc pc = .ok (.ldc_w idx, 3)) (hn : Go p l e R s m args below meth c Q nL G n0 s0 r (pc + 3) kn) :
    Go p l e R s m args below meth c Q nL G n0 s0 r pc (fun L st h => match e2.1 with
    | 20 => kn L (.inl (nI e2.2.1) :: st) h
    | _ => none) := by
  intro L st h hr ls H locs hL h0 h1 hP hS
  dsimp only at hr
  split at hr
  · rename_i he
    obtain ⟨qq, hp⟩ : ∃ q, okP own (idx, e2, q) = true := hp.resolve_left (by omega)
    simp [okP, he] at hp
    exact lv_ldcw F.1 F.2.1 F.2.2.2.1 (F.2.2.2.2.1 _ (xat_in hp)) hd (hn _ _ _ hr ls H locs hL h0 h1 hP hS)
  · cases hr
theorem go_ldc2 (F : Fx p s m args meth c cc nL own G X ini n0) (hp : e2.1 = 99 ∨ ∃ q, okP own (idx, e2, q) = true) (hd : decode cc pc = .ok (.ldc2_w idx, 3)) (hn : Go p l e R s m args below meth c Q nL G n0 s0 r (pc + 3) kn) :
    Go p l e R s m args below meth c Q nL G n0 s0 r pc (fun L st h => match e2.1 with
    | 21 => kn L (.inr (.inl (lN e2.2.1)) :: st) h
    | _ => none) := by
  intro L st h hr ls H locs hL h0 h1 hP hS
  dsimp only at hr
  split at hr
  · rename_i he
    obtain ⟨qq, hp⟩ : ∃ q, okP own (idx, e2, q) = true := hp.resolve_left (by omega)
    simp [okP, he] at hp
    exact lv_ldc2 F.1 F.2.1 F.2.2.2.1 (F.2.2.2.2.1 _ (xat_in hp)) hd (hn _ _ _ hr ls H locs hL h0 h1 hP hS)
  · cases hr
theorem go_getstatic (F : Fx p s m args meth c cc nL own G X ini n0) (hp : e2.1 = 99 ∨ ∃ q, okP own (idx, e2, q) = true) (hd : decode cc pc = .ok (.getstatic idx, 3)) (hn : Go p l e R s m args below meth c Q nL G n0 s0 r (pc + 3) kn) :
    Go p l e R s m args below meth c Q nL G n0 s0 r pc (fun L st h => match e2.1 with
    | 9 => kn L (.inr (.inr (some (1000000 + e2.2.1))) :: st) h
    | 10 => kn L (.inl (nI e2.2.1) :: st) h
    | _ => none) := by
  intro L st h hr ls H locs hL h0 h1 hP hS
  dsimp only at hr
  split at hr
  · rename_i he
    obtain ⟨qq, hp⟩ : ∃ q, okP own (idx, e2, q) = true := hp.resolve_left (by omega)
    simp [okP, he] at hp
    have e3 : cV G (.inr (.inr (some (1000000 + e2.2.1)))) = va_rf (G.2.2.2 e2.2.1) := by show cR G (1000000 + e2.2.1) = _; unfold cR; rw [if_neg (by omega), show 1000000 + e2.2.1 - 1000000 = e2.2.1 by omega]
    have fin := hn _ _ _ hr ls H locs hL h0 h1 hP hS
    rw [List.map_cons, e3] at fin
    rcases hp with (⟨h3, hw⟩ | ⟨h3, hw⟩) | ⟨h3, hw⟩
    · obtain ⟨t, g, k⟩ := F.2.2.2.2.2.2.1.2.1
      rw [h3, g] at fin
      exact va_gets F.1 F.2.1 k hS F.2.2.2.1 (F.2.2.2.2.1 _ (xat_in hw)) (fun x h => h) hd fin
    · obtain ⟨t, g, k⟩ := F.2.2.2.2.2.2.1.2.2.1
      rw [h3, g] at fin
      exact va_gets F.1 F.2.1 k hS F.2.2.2.1 (F.2.2.2.2.1 _ (xat_in hw)) (fun x h => h) hd fin
    · rw [h3] at fin
      exact va_gets F.1 F.2.1 F.2.2.2.2.2.2.1.2.2.2.1 hS F.2.2.2.1 (F.2.2.2.2.1 _ (xat_in hw)) (fun x h => h) hd fin
  · rename_i he
    obtain ⟨qq, hp⟩ : ∃ q, okP own (idx, e2, q) = true := hp.resolve_left (by omega)
    simp [okP, he] at hp
    have fin := hn _ _ _ hr ls H locs hL h0 h1 hP hS
    rw [hp.1] at fin
    exact va_gets F.1 F.2.1 F.2.2.2.2.2.2.1.2.2.2.2.1 hS F.2.2.2.1 (F.2.2.2.2.1 _ (xat_in hp.2)) (fun x h => h) hd fin
  · cases hr
end Heap
