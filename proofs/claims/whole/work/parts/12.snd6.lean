section Alloc
variable {p : Program} {l : Launch} {e : Env} {R : Room} {s : State} {m : MethodId} {args : Array Value} {below : List Frame} {meth : Method} {c : Code} {Q : State → Prop} {cc : ByteArray} {nL : Nat} {own : String} {G : XG} {X : XE} {ini : Bool} {n0 s0 : Nat} {r : XR} {pc : Nat} {kn : XL → XS → XH → Option XR} {kj : Nat → XL → XS → XH → Option XR} {e2 : XP} {idx : Nat}
theorem rep_none (n j : Nat) : (List.replicate n (none : Option Nat)).getD j none = none := by
  rw [List.getD_eq_getElem?_getD, List.getElem?_replicate]
  split <;> rfl
theorem slt_new (S : List XC) (kd n : Nat) (rs : List (Option Nat)) : slt (S ++ [(kd, n, rs)]) = slt S + n := slt_app S _
/-- what a new cell is, and that the walk goes on -/
theorem w_new (F : Fx p s m args meth c cc nL own G X ini n0) {locs : List Loc} {h h2 : XH} {cx : XC} {ls : Array Slot} {L : XL} {pc2 : Nat} {q : XS} (hL : LH G ls nL L) (h0 : n0 ≤ h.1.length) (h1 : s0 ≤ slt h.1) (hs : h2.1 = h.1 ++ [cx]) (ho : ∀ b, b ≠ h.1.length → h2.2.1 b = h.2.1 b ∧ h2.2.2 b = h.2.2 b) (hlen : h.1.length < 1000000) (hn : Go p l e R s m args below meth c Q nL G n0 s0 r pc2 kn) (hr : kn L (.inr (.inr (some h.1.length)) :: q) h2 = some r)
    {qa : Nat} {H1 : Heap} (hP : va_P G.2.1 xcl (cW G h ++ [(qa, cC G (h2.2.1 h.1.length) (h2.2.2 h.1.length) cx)]) H1) (hD : va_D (xA G) (cW G h ++ [(qa, cC G (h2.2.1 h.1.length) (h2.2.2 h.1.length) cx)])) (hS : va_S (xA G) s.heap H1 locs) :
    W p l e R s m args below meth c H1 locs (h.1.length - n0 + 1) (slt h.1 - s0 + cx.2.1) Q (F0 m pc2 ls (.ref qa :: q.map (cV G))) := by
  refine w_size (fun hz => ?_)
  rw [F.2.2.2.2.2.2.2.2] at hz
  have hq := fresh hP hD (by omega)
  subst hq
  rw [← cW_app hs ho] at hP
  have hl2 : h2.1.length = h.1.length + 1 := by rw [hs]; simp
  have hs2 : slt h2.1 = slt h.1 + cx.2.1 := by rw [hs]; exact slt_app _ _
  have fin := hn _ _ _ hr ls H1 locs hL (by omega) (by omega) hP hS
  rw [hl2, hs2, show h.1.length + 1 - n0 = h.1.length - n0 + 1 by omega, show slt h.1 + cx.2.1 - s0 = slt h.1 - s0 + cx.2.1 by omega, List.map_cons, cV_own hlen] at fin
  exact fin
theorem hAx (F : Fx p s m args meth c cc nL own G X ini n0) : ∀ q, s.heap.size ≤ q → xA G q := fun q h => by
  have := F.2.2.2.2.2.2.2.2
  show G.1 ≤ q
  omega
theorem room_of {h h2 : XH} {r : XR} {n0 s0 k n : Nat} {R : Room} (hR : r.2.1.length - n0 ≤ R.cells ∧ slt r.2.1 - s0 ≤ R.slots) (hg : hle h2 r.2) (h1 : h2.1.length = h.1.length + k) (h2' : slt h2.1 = slt h.1 + n) (h0 : n0 ≤ h.1.length) (h3 : s0 ≤ slt h.1) : h.1.length - n0 + k ≤ R.cells ∧ slt h.1 - s0 + n ≤ R.slots := by
  have a := hg.1
  have b := hg.2
  omega
theorem go_new (F : Fx p s m args meth c cc nL own G X ini n0) (hR : r.2.1.length - n0 ≤ R.cells ∧ slt r.2.1 - s0 ≤ R.slots) (hlen : r.2.1.length ≤ 1000000) (hg : ∀ L st h, kn L st h = some r → hle h r.2) (hp : e2.1 = 99 ∨ ∃ q, okP own (idx, e2, q) = true) (hd : decode cc pc = .ok (.new idx, 3)) (hn : Go p l e R s m args below meth c Q nL G n0 s0 r (pc + 3) kn) :
    Go p l e R s m args below meth c Q nL G n0 s0 r pc (fun L st h => match e2.1 with
    | 6 => xnew h e2.2.1 e2.2.2.1 (fun a h2 => kn L (.inr (.inr (some a)) :: st) h2)
    | _ => none) := by
  intro L st h hr ls H locs hL h0 h1 hP hS
  dsimp only at hr
  split at hr
  · rename_i he
    obtain ⟨qq, hp⟩ : ∃ q, okP own (idx, e2, q) = true := hp.resolve_left (by omega)
    unfold okP at hp
    dsimp only at hp
    rw [if_neg (by omega), if_neg (by omega), if_neg (by omega), if_neg (by omega), if_neg (by omega), if_neg (by omega), if_pos he] at hp
    cases hw : xcl[e2.2.1]? with
    | none => simp only [hw] at hp; cases hp
    | some w =>
      simp only [hw, Bool.and_eq_true, decide_eq_true_eq] at hp
      obtain ⟨hN, hcl⟩ := hp
      have hci := xcl_lt hw
      unfold xnew at hr
      rw [if_pos (Or.inl hci)] at hr
      have hgr := hg _ _ _ hr
      have hl2 : (h.1 ++ [(e2.2.1, e2.2.2.1, List.replicate e2.2.2.1 (none : Option Nat))]).length = h.1.length + 1 := by simp
      have hrm := room_of (h := h) hR hgr hl2 (slt_new _ _ _ _) h0 h1
      have hlm : h.1.length < 1000000 := by have h9 := hle_len hgr hlen; dsimp only at h9; omega
      have hfs : ∀ j, j < w.2.2 → defaultValue (xft e2.2.1 j) = vp_V (cFs G e2.2.1 e2.2.2.1 (fun _ => 0) (fun _ => 0) (List.replicate e2.2.2.1 (none : Option Nat))) j := by
        intro j hj
        unfold vp_V
        rw [List.getD_eq_getElem?_getD, cFs_get (by rw [hN]; exact hj), Option.getD_some]
        have h7 : (List.replicate e2.2.2.1 (none : Option Nat)).getD j none = none := rep_none _ _
        rw [h7]
        have htk := xcl_tk _ _ hw _ hj
        unfold tyOK at htk
        unfold cF
        split at htk <;> (try simp only [Bool.or_eq_true, decide_eq_true_eq] at htk)
        · rename_i ht; rw [ht, if_pos (Or.inl htk)]; rfl
        · rename_i ht; rw [ht, if_neg (by omega), if_pos htk]; rfl
        · rename_i ht; rw [ht, if_pos (Or.inr htk)]; rfl
        · rename_i ht; rw [ht, if_neg (by omega), if_neg (by omega)]; rfl
        · rename_i ht; rw [ht, if_neg (by omega), if_neg (by omega)]; rfl
        · cases htk
      refine va_new F.1 F.2.1 F.2.2.2.2.1 (xcl_w _ _ hw).1 (xft e2.2.1) (xcl_ty _ _ hw) F.2.2.2.1 (F.2.2.2.2.1 _ (xat_in hcl)) (F.2.2.2.2.1 _ (xcl_w _ _ hw).2.2) (F.2.2.2.2.1 _ (xcl_w _ _ hw).2.1) F.2.2.2.2.2.1 hP (cW_D G h) hS (hAx F) hw hfs hrm.1 (by rw [← hN]; exact hrm.2) hd (fun q H1 q1 q2 q3 => ?_)
      have e1 : (Sum.inr (e2.2.1, cFs G e2.2.1 e2.2.2.1 (fun _ => 0) (fun _ => 0) (List.replicate e2.2.2.1 (none : Option Nat))) : va_E) = cC G (upr h.2.1 h.1.length (fun _ => 0) h.1.length) (upr h.2.2 h.1.length (fun _ => 0) h.1.length) (e2.2.1, e2.2.2.1, List.replicate e2.2.2.1 (none : Option Nat)) := by
        rw [upr_self, upr_self, cC_obj (by exact hci)]
      rw [e1] at q1 q2
      rw [← hN]
      exact w_new F hL h0 h1 (h2 := (h.1 ++ [(e2.2.1, e2.2.2.1, List.replicate e2.2.2.1 (none : Option Nat))], upr h.2.1 h.1.length (fun _ => 0), upr h.2.2 h.1.length (fun _ => 0))) (cx := (e2.2.1, e2.2.2.1, List.replicate e2.2.2.1 (none : Option Nat))) rfl (fun b hb => ⟨upr_off _ _ _ hb, upr_off _ _ _ hb⟩) hlm hn hr q1 q2 q3
  · cases hr
theorem tl_of (F : Fx p s m args meth c cc nL own G X ini n0) {k : Nat} {ty : FieldType} (hk : (xtl G)[k]? = some (G.2.2.1 k, ty)) {cA : ClassId} (hA : va_RA s cA ty) : cA = G.2.2.1 k := by
  have h2 := (F.2.2.2.2.2.1.2 k _ hk).2
  dsimp only at h2
  cases ty with
  | object C =>
    obtain ⟨_, _, _, _, _, a⟩ := h2
    obtain ⟨_, _, _, _, _, b⟩ := hA
    exact Option.some.inj (b.symm.trans a)
  | _ => exact Option.some.inj (Eq.trans (Eq.symm hA) h2)
theorem go_newarray (F : Fx p s m args meth c cc nL own G X ini n0) (hR : r.2.1.length - n0 ≤ R.cells ∧ slt r.2.1 - s0 ≤ R.slots) (hlen : r.2.1.length ≤ 1000000) (hg : ∀ L st h, kn L st h = some r → hle h r.2) {t : ArrayType} (hd : decode cc pc = .ok (.newarray t, 2)) (hn : Go p l e R s m args below meth c Q nL G n0 s0 r (pc + 2) kn) :
    Go p l e R s m args below meth c Q nL G n0 s0 r pc (fun L st h => un st (fun n q => if (decide (¬ n < 0) && decide (n.toNatClampNeg ≤ 100000) && decide (0 < akind t)) = true then xnew h (akind t) n.toNatClampNeg (fun a h2 => kn L (.inr (.inr (some a)) :: q) h2) else none)) := by
  intro L st h hr ls H locs hL h0 h1 hP hS
  dsimp only [un] at hr
  split at hr
  · rename_i n q
    split at hr
    · rename_i hq
      simp only [Bool.and_eq_true, decide_eq_true_eq] at hq
      obtain ⟨⟨hn0, hnb⟩, hak⟩ := hq
      unfold xnew at hr
      have hno : ¬ (akind t < 50 ∨ 53 ≤ akind t) := by cases t <;> simp [akind] at hak ⊢
      rw [if_neg hno] at hr
      have hgr := hg _ _ _ hr
      have hl2 : (h.1 ++ [(akind t, n.toNatClampNeg, List.replicate 0 (none : Option Nat))]).length = h.1.length + 1 := by simp
      have hrm := room_of (h := h) hR hgr hl2 (slt_new _ _ _ _) h0 h1
      have hlm : h.1.length < 1000000 := by have h9 := hle_len hgr hlen; dsimp only at h9; omega
      have key : ∀ (ty : FieldType) (k : Nat) (a0 : vp_A), newarray.typeOf t = ty → (xtl G)[k]? = some (G.2.2.1 k, ty) → (Cond.arrayClass ty).before args s = true → (∀ cA : ClassId, vp_cell cA a0 = arrV cA n.toNatClampNeg (fun _ => defaultValue ty)) → n.toNatClampNeg * componentBytes ty ≤ 536870912 → (Sum.inl (G.2.2.1 k, a0) : va_E) = cC G (fun _ => 0) (fun _ => 0) (akind t, n.toNatClampNeg, List.replicate 0 (none : Option Nat)) → W p l e R s m args below meth c H locs (h.1.length - n0) (slt h.1 - s0) Q (F0 m pc ls (.int n :: q.map (cV G))) := by
        intro ty k a0 h2 h3 h4 h5 h6 h7
        refine va_newa F.1 F.2.1 (by rw [h2]; exact h4) h2 F.2.2.2.2.2.1 hP (cW_D G h) hS (hAx F) h5 hn0 rfl h6 hrm.1 hrm.2 hd (fun q2 cA H1 k1 q1 k2 q3 => ?_)
        have hcA : cA = G.2.2.1 k := by
          have h8 := (k1.2 (xtl G).length (cA, ty) (by simp)).2
          exact tl_of F h3 h8
        subst hcA
        rw [h7] at q1 k2
        have e1 : cC G (fun _ => 0) (fun _ => 0) (akind t, n.toNatClampNeg, List.replicate 0 (none : Option Nat)) = cC G (upr h.2.1 h.1.length (fun _ => 0) h.1.length) (upr h.2.2 h.1.length (fun _ => 0) h.1.length) (akind t, n.toNatClampNeg, List.replicate 0 (none : Option Nat)) := by rw [upr_self, upr_self]
        rw [e1] at q1 k2
        exact w_new F hL h0 h1 (h2 := (h.1 ++ [(akind t, n.toNatClampNeg, List.replicate 0 (none : Option Nat))], upr h.2.1 h.1.length (fun _ => 0), upr h.2.2 h.1.length (fun _ => 0))) (cx := (akind t, n.toNatClampNeg, List.replicate 0 (none : Option Nat))) rfl (fun b hb => ⟨upr_off _ _ _ hb, upr_off _ _ _ hb⟩) hlm hn hr q1 k2 q3
      cases t <;> first | (exfalso; simp [akind] at hak; done) | skip
      · exact key .boolean 2 (n.toNatClampNeg, .inl (fun _ => 0)) rfl rfl (F.2.2.2.2.1 _ xg_aZ) (fun _ => rfl) (by simp [componentBytes]; omega) (by rw [cC_z rfl])
      · exact key .int 0 (n.toNatClampNeg, .inl (fun _ => 0)) rfl rfl (F.2.2.2.2.1 _ xg_aI) (fun _ => rfl) (by simp [componentBytes]; omega) (by rw [cC_i rfl])
      · exact key .long 1 (n.toNatClampNeg, .inr (.inl (fun _ => 0))) rfl rfl (F.2.2.2.2.1 _ xg_aJ) (fun _ => rfl) (by simp [componentBytes]; omega) (by rw [cC_l rfl])
    · cases hr
  · cases hr
theorem cRs_rep (G : XG) (n : Nat) : cRs G (List.replicate n (none : Option Nat)) = fun _ => none := by
  funext j
  unfold cRs
  have h7 : (List.replicate n (none : Option Nat)).getD j none = none := rep_none _ _
  rw [h7]
  rfl
theorem go_anewarray (F : Fx p s m args meth c cc nL own G X ini n0) (hR : r.2.1.length - n0 ≤ R.cells ∧ slt r.2.1 - s0 ≤ R.slots) (hlen : r.2.1.length ≤ 1000000) (hg : ∀ L st h, kn L st h = some r → hle h r.2) (hp : e2.1 = 99 ∨ ∃ q, okP own (idx, e2, q) = true) (hd : decode cc pc = .ok (.anewarray idx, 3)) (hn : Go p l e R s m args below meth c Q nL G n0 s0 r (pc + 3) kn) :
    Go p l e R s m args below meth c Q nL G n0 s0 r pc (fun L st h => match e2.1 with
    | 7 => un st (fun n q => if (decide (¬ n < 0) && decide (n.toNatClampNeg ≤ 100000)) = true then xnew h e2.2.1 n.toNatClampNeg (fun a h2 => kn L (.inr (.inr (some a)) :: q) h2) else none)
    | _ => none) := by
  intro L st h hr ls H locs hL h0 h1 hP hS
  dsimp only at hr
  split at hr
  · rename_i he
    obtain ⟨qq, hp⟩ : ∃ q, okP own (idx, e2, q) = true := hp.resolve_left (by omega)
    simp [okP, he] at hp
    unfold un at hr
    split at hr
    · rename_i n q
      dsimp only at hr
      split at hr
      · rename_i hq
        simp only [Bool.and_eq_true, decide_eq_true_eq] at hq
        obtain ⟨hn0, hnb⟩ := hq
        unfold xnew at hr
        have hyes : e2.2.1 < 50 ∨ 53 ≤ e2.2.1 := by rcases hp with hp | hp <;> omega
        rw [if_pos hyes] at hr
        have hgr := hg _ _ _ hr
        have hl2 : (h.1 ++ [(e2.2.1, n.toNatClampNeg, List.replicate n.toNatClampNeg (none : Option Nat))]).length = h.1.length + 1 := by simp
        have hrm := room_of (h := h) hR hgr hl2 (slt_new _ _ _ _) h0 h1
        have hlm : h.1.length < 1000000 := by have h9 := hle_len hgr hlen; dsimp only at h9; omega
        have key : ∀ (C : String) (k : Nat), (xtl G)[k]? = some (G.2.2.1 k, .object C) → (Cond.classLink own idx C) ∈ XW → va_AO C s → (Sum.inl (G.2.2.1 k, n.toNatClampNeg, .inr (.inr (.inr (.inr (fun _ => none))))) : va_E) = cC G (fun _ => 0) (fun _ => 0) (e2.2.1, n.toNatClampNeg, List.replicate n.toNatClampNeg (none : Option Nat)) → W p l e R s m args below meth c H locs (h.1.length - n0) (slt h.1 - s0) Q (F0 m pc ls (.int n :: q.map (cV G))) := by
          intro C k h3 h4 h5 h7
          refine va_newq F.1 F.2.1 F.2.2.2.1 (F.2.2.2.2.1 _ h4) h5 F.2.2.2.2.2.1 hP (cW_D G h) hS (hAx F) hn0 rfl (by omega) hrm.1 hrm.2 hd (fun q2 cA H1 k1 q1 k2 q3 => ?_)
          have hcA : cA = G.2.2.1 k := by
            have h8 := (k1.2 (xtl G).length (cA, .object C) (by simp)).2
            exact tl_of F h3 h8
          subst hcA
          rw [h7] at q1 k2
          have e1 : cC G (fun _ => 0) (fun _ => 0) (e2.2.1, n.toNatClampNeg, List.replicate n.toNatClampNeg (none : Option Nat)) = cC G (upr h.2.1 h.1.length (fun _ => 0) h.1.length) (upr h.2.2 h.1.length (fun _ => 0) h.1.length) (e2.2.1, n.toNatClampNeg, List.replicate n.toNatClampNeg (none : Option Nat)) := by rw [upr_self, upr_self]
          rw [e1] at q1 k2
          exact w_new F hL h0 h1 (h2 := (h.1 ++ [(e2.2.1, n.toNatClampNeg, List.replicate n.toNatClampNeg (none : Option Nat))], upr h.2.1 h.1.length (fun _ => 0), upr h.2.2 h.1.length (fun _ => 0))) (cx := (e2.2.1, n.toNatClampNeg, List.replicate n.toNatClampNeg (none : Option Nat))) rfl (fun b hb => ⟨upr_off _ _ _ hb, upr_off _ _ _ hb⟩) hlm hn hr q1 k2 q3
        rcases hp with ⟨h3, h4⟩ | ⟨h3, h4⟩
        · exact key "TamerState$World" 3 rfl (xat_in h4) F.2.2.2.2.2.2.1.2.2.2.2.2.2.2.2.2.1 (by rw [cC_w h3]; dsimp only; rw [cRs_rep])
        · exact key "TamerState$Program" 4 rfl (xat_in h4) F.2.2.2.2.2.2.1.2.2.2.2.2.2.2.2.2.2 (by rw [cC_p h3]; dsimp only; rw [cRs_rep])
      · cases hr
    · cases hr
  · cases hr
end Alloc
