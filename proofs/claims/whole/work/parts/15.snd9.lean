section Calls8
variable {p : Program} {l : Launch} {e : Env} {R : Room} {s : State} {m : MethodId} {args : Array Value} {below : List Frame} {meth : Method} {c : Code} {Q : State → Prop} {cc : ByteArray} {nL : Nat} {own : String} {G : XG} {X : XE} {ini : Bool} {n0 s0 : Nat} {r : XR} {pc : Nat} {kn : XL → XS → XH → Option XR} {kj : Nat → XL → XS → XH → Option XR} {e2 : XP} {idx : Nat} {d : Nat} {cl : XCl}
theorem go_virt (F : Fx p s m args meth c cc nL own G X ini n0) (hM : McL l G X d cl) (hok : ∀ (k : Nat) (q : XMe), xme[k]? = some q → 0 < k → okQ q) (hclg : ∀ k as h rr, cl k as h = some rr → hle h rr.2) (hRd : d + 1 ≤ R.frames ∧ 40 * (d + 1) ≤ R.locals) (hR : r.2.1.length - n0 ≤ R.cells ∧ slt r.2.1 - s0 ≤ R.slots) (hlen : r.2.1.length ≤ 1000000) (hg : ∀ L st h, kn L st h = some r → hle h r.2) (hp : e2.1 = 99 ∨ ∃ q, okP own (idx, e2, q) = true) (hd : decode cc pc = .ok (.invokevirtual idx, 3)) (hn : Go p l e R s m args below meth c Q nL G n0 s0 r (pc + 3) kn) :
    Go p l e R s m args below meth c Q nL G n0 s0 r pc (fun L st h => match e2.1 with
    | 2 => match popN (e2.2.2.1 / 1000) st [] with
      | some (as, .inr (.inr x) :: q) => if xcats q ≤ 8 then objR h.1 x (e2.2.2.1 % 1000) (fun a => xcall e2.2.2.2 (cl e2.2.1 (.inr (.inr (some a)) :: as) h) q (fun q2 h2 => kn L q2 h2)) else none
      | _ => none
    | 13 => match popN (e2.2.2.1 / 1000) st [] with
      | some (as, .inr (.inr (some a)) :: q) => if xcats q ≤ 8 ∧ (a = 1000003 ∨ a = 1000005) then xcall e2.2.2.2 (cl e2.2.1 (.inr (.inr (some a)) :: as) h) q (fun q2 h2 => kn L q2 h2) else none
      | _ => none
    | 34 => match st with
      | .inr (.inr (some a)) :: q => if xcats q ≤ 8 then xclone h a (fun a2 h2 => kn L (.inr (.inr (some a2)) :: q) h2) else none
      | _ => none
    | _ => none) := by
  intro L st h hr ls H locs hL h0 h1 hP hS
  dsimp only at hr
  split at hr
  · rename_i he
    obtain ⟨qq, hp⟩ : ∃ q, okP own (idx, e2, q) = true := hp.resolve_left (by omega)
    split at hr
    · rename_i as x q hpop
      split at hr
      · rename_i hq8
        unfold objR at hr
        split at hr
        · rename_i a
          split at hr
          · rename_i cx hc
            split at hr
            · rename_i hcx
              obtain ⟨rr, hcl, hk⟩ := xcall_inv hr
              obtain ⟨bs, hb1, hb2, hb3⟩ := popN_inv hpop
              rw [List.append_nil] at hb1
              subst hb1
              have hgr := hclg _ _ _ _ hcl
              have hg2 := hg _ _ _ hk
              have hrl := Nat.le_trans hg2.1 hlen
              obtain ⟨qm, hqm, hmet⟩ := hM _ _ _ _ hcl hrl
              unfold okP at hp
              dsimp only at hp
              rw [if_neg (by omega), if_pos he] at hp
              cases hw : xcl[e2.2.2.1 % 1000]? with
              | none => simp only [hqm, hw] at hp; cases hp
              | some w =>
                simp only [hqm, hw, Bool.and_eq_true, decide_eq_true_eq] at hp
                obtain ⟨⟨⟨⟨⟨hk0, hcls⟩, hlink⟩, hinst⟩, hsel⟩, hnp⟩ := hp
                have hqok := hok _ _ hqm hk0
                refine w_size (fun hz => ?_)
                have hsz := size_of F hP hS h0 hz
                have a1 := hgr.1
                have a2 := hgr.2
                have b1 := hg2.1
                have b2 := hg2.2
                have hla : a < 1000000 := len_ok hgr hrl hc
                refine w_call hlen hg hn hL h0 h1 hgr hS hk (a := (Value.ref (G.1 + a) :: as.map (cV G)).toArray) ?_
                have hst : (st.map (cV G)) = (as.map (cV G)).reverse ++ .ref (G.1 + a) :: q.map (cV G) := by rw [hb2, List.map_append, List.map_reverse, List.map_cons, cV_own hla]
                have hgt := cW_get (G := G) hc
                rw [cC_obj (by rw [hcx]; exact xcl_lt hw), hcx] at hgt
                have hrecv := va_recv F.2.2.2.2.2.1 hP hw hgt
                rw [← hcls] at hrecv
                have hpre := pre_of F (as := .inr (.inr (some a)) :: as) hP hS hsz
                rw [List.map_cons, cV_own hla] at hpre
                exact va_runV (As := as.map (cV G)) ⟨F.1, F.2.1, F.2.2.1, F.2.2.2.1, F.2.2.2.2.1⟩ hmet ⟨cb_of hqok F.2.2.2.2.1 (xat_in hlink) hnp hRd _ _, F.2.2.2.2.1 _ (xat_in hinst), F.2.2.2.2.1 _ (xat_in hsel)⟩ ⟨Pcx_blind, hrecv, hpre⟩ rfl (by rw [List.length_map]; exact hb3) hL.1 hst (lv_room (by rw [cats_eq]; exact hq8)) hd ⟨by omega, by omega⟩
            · cases hr
          · cases hr
        · cases hr
      · cases hr
    · cases hr
  · rename_i he
    obtain ⟨qq, hp⟩ : ∃ q, okP own (idx, e2, q) = true := hp.resolve_left (by omega)
    split at hr
    · rename_i as a q hpop
      split at hr
      · rename_i hq8
        obtain ⟨rr, hcl, hk⟩ := xcall_inv hr
        obtain ⟨bs, hb1, hb2, hb3⟩ := popN_inv hpop
        rw [List.append_nil] at hb1
        subst hb1
        have hgr := hclg _ _ _ _ hcl
        have hg2 := hg _ _ _ hk
        have hrl := Nat.le_trans hg2.1 hlen
        obtain ⟨qm, hqm, hmet⟩ := hM _ _ _ _ hcl hrl
        unfold okP at hp
        dsimp only at hp
        rw [if_neg (by omega), if_neg (by omega), if_neg (by omega), if_neg (by omega), if_pos he] at hp
        simp only [hqm, Bool.and_eq_true, decide_eq_true_eq] at hp
        obtain ⟨⟨⟨⟨⟨hk0, hcls⟩, hlink⟩, hinst⟩, hsel⟩, hnp⟩ := hp
        have hqok := hok _ _ hqm hk0
        refine w_size (fun hz => ?_)
        have hsz := size_of F hP hS h0 hz
        have a1 := hgr.1
        have a2 := hgr.2
        have b1 := hg2.1
        have b2 := hg2.2
        have hj : a - 1000000 = 3 ∨ a - 1000000 = 5 := by omega
        obtain ⟨t, v, g1, g2, g3, g4, g5⟩ := F.2.2.2.2.2.2.1.2.2.2.2.2.1 (a - 1000000) hj
        have e1 : cV G (.inr (.inr (some a))) = .ref t := by show cR G a = _; unfold cR; rw [if_neg (by omega), g1]; rfl
        refine w_call hlen hg hn hL h0 h1 hgr hS hk (a := (Value.ref t :: as.map (cV G)).toArray) ?_
        have hst : (st.map (cV G)) = (as.map (cV G)).reverse ++ .ref t :: q.map (cV G) := by rw [hb2, List.map_append, List.map_reverse, List.map_cons, e1]
        have hrecv : ∃ cell : Cell, H[t]? = some cell ∧ cell.vm.isStatics = false ∧ s.vm.findClass "java/lang/String" = some cell.cls := by
          obtain ⟨cell, k1, k2, k3, -⟩ := g3.kept (fun a h1 h2 => hS.2.1 a h1 h2)
          exact ⟨cell, k1, k2, k3⟩
        rw [← hcls] at hrecv
        have hpre := pre_of F (as := .inr (.inr (some a)) :: as) hP hS hsz
        rw [List.map_cons, e1] at hpre
        exact va_runV (As := as.map (cV G)) ⟨F.1, F.2.1, F.2.2.1, F.2.2.2.1, F.2.2.2.2.1⟩ hmet ⟨cb_of hqok F.2.2.2.2.1 (xat_in hlink) hnp hRd _ _, F.2.2.2.2.1 _ (xat_in hinst), F.2.2.2.2.1 _ (xat_in hsel)⟩ ⟨Pcx_blind, hrecv, hpre⟩ rfl (by rw [List.length_map]; exact hb3) hL.1 hst (lv_room (by rw [cats_eq]; exact hq8.1)) hd ⟨by omega, by omega⟩
      · cases hr
    · cases hr
  · rename_i he
    obtain ⟨qq, hp⟩ : ∃ q, okP own (idx, e2, q) = true := hp.resolve_left (by omega)
    simp [okP, he] at hp
    split at hr
    · rename_i a q
      split at hr
      · rename_i hq8
        unfold xclone at hr
        split at hr
        · rename_i cx hc
          split at hr
          · rename_i hcx
            have hgr := hg _ _ _ hr
            have hl2 : (h.1 ++ [((50, cx.2.1, []) : XC)]).length = h.1.length + 1 := by simp
            have hrm := room_of (h := h) hR hgr hl2 (slt_new _ _ _ _) h0 h1
            have hlm : h.1.length < 1000000 := by have h9 := hle_len hgr hlen; dsimp only at h9; omega
            have hlt : a < h.1.length := (List.getElem?_eq_some_iff.mp hc).1
            have hgt := cW_get (G := G) hc
            rw [cC_i hcx] at hgt
            have hnm : s.vm.findClass "[I" = some (G.2.2.1 0) := (F.2.2.2.2.2.1.2 0 _ (rfl : (xtl G)[0]? = some (G.2.2.1 0, .int))).2
            rw [List.map_cons, cV_own (a := a) (by omega)]
            refine va_clone F.1 F.2.1 (hml_of F hL) F.2.2.2.1 (F.2.2.2.2.1 _ (xat_in hp)) (F.2.2.2.2.1 _ xg_cls) (F.2.2.2.2.1 _ xg_cln) (F.2.2.2.2.1 _ xg_cli) (F.2.2.2.2.1 _ xg_clx) (F.2.2.2.2.2.2.1.2.2.2.2.2.2.2.2.1 _ xg_clc) F.2.2.2.2.2.1 hP (cW_D G h) hS (hAx F) a 0 hgt (rfl : (xtl G)[0]? = some (G.2.2.1 0, .int)) hnm ?_ (by omega) (by rw [cats_eq]; omega) hrm.1 hrm.2 hd (fun q2 H1 k1 q1 k2 q3 => ?_)
            · intro i v hv
              have hv2 : (arrV (G.2.2.1 0) cx.2.1 (fun j => .int (h.2.1 a j))).slots[i]? = some v := hv
              simp only [arrV, Array.getElem?_ofFn] at hv2
              split at hv2
              · cases hv2; rfl
              · cases hv2
            · have e1 : (Sum.inl (G.2.2.1 0, cx.2.1, Sum.inl (h.2.1 a)) : va_E) = cC G (upr h.2.1 h.1.length (h.2.1 a) h.1.length) (upr h.2.2 h.1.length (fun _ => 0) h.1.length) ((50, cx.2.1, []) : XC) := by rw [upr_self, upr_self, cC_i rfl]
              rw [e1] at q1 k2
              exact w_new F hL h0 h1 (h2 := (h.1 ++ [((50, cx.2.1, []) : XC)], upr h.2.1 h.1.length (h.2.1 a), upr h.2.2 h.1.length (fun _ => 0))) (cx := ((50, cx.2.1, []) : XC)) rfl (fun b hb => ⟨upr_off _ _ _ hb, upr_off _ _ _ hb⟩) hlm hn hr q1 k2 q3
          · cases hr
        · cases hr
      · cases hr
    · cases hr
  · cases hr
theorem go_spec (F : Fx p s m args meth c cc nL own G X ini n0) (hM : McL l G X d cl) (hok : ∀ (k : Nat) (q : XMe), xme[k]? = some q → 0 < k → okQ q) (hclg : ∀ k as h rr, cl k as h = some rr → hle h rr.2) (hRd : d + 1 ≤ R.frames ∧ 40 * (d + 1) ≤ R.locals) (hR : r.2.1.length - n0 ≤ R.cells ∧ slt r.2.1 - s0 ≤ R.slots) (hlen : r.2.1.length ≤ 1000000) (hg : ∀ L st h, kn L st h = some r → hle h r.2) (hp : e2.1 = 99 ∨ ∃ q, okP own (idx, e2, q) = true) (hd : decode cc pc = .ok (.invokespecial idx, 3)) (hn : Go p l e R s m args below meth c Q nL G n0 s0 r (pc + 3) kn) :
    Go p l e R s m args below meth c Q nL G n0 s0 r pc (fun L st h => match e2.1 with
    | 3 => match popN (e2.2.2.1 / 1000) st [] with
      | some (as, .inr (.inr x) :: q) => if xcats q ≤ 8 then objR h.1 x (e2.2.2.1 % 1000) (fun a => xcall 0 (cl e2.2.1 (.inr (.inr (some a)) :: as) h) q (fun q2 h2 => kn L q2 h2)) else none
      | _ => none
    | 5 => match st with
      | .inr (.inr (some a)) :: q => if xcats q ≤ 8 ∧ a < 1000000 then kn L q h else none
      | _ => none
    | _ => none) := by
  intro L st h hr ls H locs hL h0 h1 hP hS
  dsimp only at hr
  split at hr
  · rename_i he
    obtain ⟨qq, hp⟩ : ∃ q, okP own (idx, e2, q) = true := hp.resolve_left (by omega)
    split at hr
    · rename_i as x q hpop
      split at hr
      · rename_i hq8
        unfold objR at hr
        split at hr
        · rename_i a
          split at hr
          · rename_i cx hc
            split at hr
            · rename_i hcx
              obtain ⟨rr, hcl, hk⟩ := xcall_inv hr
              obtain ⟨bs, hb1, hb2, hb3⟩ := popN_inv hpop
              rw [List.append_nil] at hb1
              subst hb1
              have hgr := hclg _ _ _ _ hcl
              have hg2 := hg _ _ _ hk
              have hrl := Nat.le_trans hg2.1 hlen
              obtain ⟨qm, hqm, hmet⟩ := hM _ _ _ _ hcl hrl
              unfold okP at hp
              dsimp only at hp
              rw [if_neg (by omega), if_neg (by omega), if_pos he] at hp
              cases hw : xcl[e2.2.2.1 % 1000]? with
              | none => simp only [hqm, hw] at hp; cases hp
              | some w =>
                simp only [hqm, hw, Bool.and_eq_true, Bool.or_eq_true, decide_eq_true_eq] at hp
                obtain ⟨⟨⟨⟨⟨⟨hk0, hcls⟩, hnam⟩, hret⟩, hlink⟩, hinst⟩, hnp⟩ := hp
                have hqok := hok _ _ hqm hk0
                refine w_size (fun hz => ?_)
                have hsz := size_of F hP hS h0 hz
                have a1 := hgr.1
                have a2 := hgr.2
                have b1 := hg2.1
                have b2 := hg2.2
                have hla : a < 1000000 := len_ok hgr hrl hc
                refine w_call hlen hg hn hL h0 h1 hgr hS hk (a := (Value.ref (G.1 + a) :: as.map (cV G)).toArray) ?_
                have hst : (st.map (cV G)) = (as.map (cV G)).reverse ++ .ref (G.1 + a) :: q.map (cV G) := by rw [hb2, List.map_append, List.map_reverse, List.map_cons, cV_own hla]
                have hpre := pre_of F (as := .inr (.inr (some a)) :: as) hP hS hsz
                rw [List.map_cons, cV_own hla] at hpre
                have hcb := fun hl : Cond.methodLink own idx qm.1 ∈ XW => cb_of (R := R) hqok F.2.2.2.2.1 hl hnp hRd (rr.2.1.length - h.1.length) (slt rr.2.1 - slt h.1)
                have hcn := fun hl : va_Nw (.methodLinkNest own idx qm.1 "TamerState") s => cn_of (R := R) hqok F.2.2.2.2.1 hl hnp hRd (rr.2.1.length - h.1.length) (slt rr.2.1 - slt h.1)
                rw [hret] at hcb hcn hmet
                rcases hlink with hlink | hlink
                · exact va_runI (As := as.map (cV G)) ⟨F.1, F.2.1, F.2.2.1, F.2.2.2.1, F.2.2.2.2.1⟩ hmet ⟨hcb (xat_in hlink), hnam, F.2.2.2.2.1 _ (xat_in hinst)⟩ ⟨Pcx_blind, hpre⟩ rfl (by rw [List.length_map]; exact hb3) hL.1 hst (lv_room (by rw [cats_eq]; exact hq8)) hd ⟨by omega, by omega⟩
                · exact va_runIN (As := as.map (cV G)) ⟨F.1, F.2.1, F.2.2.1, F.2.2.2.1, F.2.2.2.2.1⟩ hmet ⟨hcn (F.2.2.2.2.2.2.1.2.2.2.2.2.2.2.2.1 _ (xatN_in hlink)), hnam, F.2.2.2.2.1 _ (xat_in hinst)⟩ ⟨Pcx_blind, hpre⟩ rfl (by rw [List.length_map]; exact hb3) hL.1 hst (lv_room (by rw [cats_eq]; exact hq8)) hd ⟨by omega, by omega⟩
            · cases hr
          · cases hr
        · cases hr
      · cases hr
    · cases hr
  · rename_i he
    obtain ⟨qq, hp⟩ : ∃ q, okP own (idx, e2, q) = true := hp.resolve_left (by omega)
    simp [okP, he] at hp
    split at hr
    · rename_i a q
      split at hr
      · rename_i hq8
        rw [List.map_cons, cV_own hq8.2]
        refine W.objInit F.1 F.2.1 F.2.2.2.1 (F.2.2.2.2.1 _ (xat_in hp)) (F.2.2.2.2.1 _ xg_oi) (F.2.2.2.2.1 _ xg_oc) rfl (by rw [F.2.2.1]; exact hL.1) rfl hd (by omega) ?_ (hn _ _ _ hr ls H locs hL h0 h1 hP hS)
        show 2 * 0 + _ + 12 ≤ R.locals
        rw [cats_eq]
        omega
      · cases hr
    · cases hr
  · cases hr
end Calls8
