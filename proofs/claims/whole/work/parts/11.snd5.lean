section Heap3
variable {p : Program} {l : Launch} {e : Env} {R : Room} {s : State} {m : MethodId} {args : Array Value} {below : List Frame} {meth : Method} {c : Code} {Q : State → Prop} {cc : ByteArray} {nL : Nat} {own : String} {G : XG} {X : XE} {ini : Bool} {n0 s0 : Nat} {r : XR} {pc : Nat} {kn : XL → XS → XH → Option XR} {kj : Nat → XL → XS → XH → Option XR} {e2 : XP} {idx : Nat}
theorem go_ild (F : Fx p s m args meth c cc nL own G X ini n0) (hlen : r.2.1.length ≤ 1000000) (hg : ∀ L st h, kn L st h = some r → hle h r.2) {kd : Nat} {ins : Instr} (hk : (kd = 50 ∧ ins = .iaload) ∨ (kd = 52 ∧ ins = .baload)) (hd : decode cc pc = .ok (ins, 1)) (hn : Go p l e R s m args below meth c Q nL G n0 s0 r (pc + 1) kn) :
    Go p l e R s m args below meth c Q nL G n0 s0 r pc (fun L st h => bin2 st (fun x j q => ild X h.1 h.2.1 x kd j (fun v => kn L (.inl v :: q) h))) := by
  intro L st h hr ls H locs hL h0 h1 hP hS
  dsimp only [bin2] at hr
  split at hr
  · rename_i j x q
    unfold ild at hr
    split at hr
    · rename_i a
      split at hr
      · rename_i ha
        unfold arr at hr
        dsimp only at hr
        split at hr
        · rename_i cx hc
          split at hr
          · rename_i hcx
            split at hr
            · rename_i hi
              have hgt := cW_get (G := G) hc
              rw [List.map_cons, List.map_cons, cV_own ha]
              have fin := hn _ _ _ hr ls H locs hL h0 h1 hP hS
              rcases hk with ⟨rfl, rfl⟩ | ⟨rfl, rfl⟩
              · rw [cC_i hcx] at hgt
                exact va_iald F.1 F.2.1 F.2.2.2.2.2.1 hP a 0 hgt rfl (inb_iff hi) hd fin
              · rw [cC_z hcx] at hgt
                exact va_zald F.1 F.2.1 F.2.2.2.2.2.1 hP a 2 hgt rfl (inb_iff hi) hd fin
            · cases hr
          · cases hr
        · cases hr
      · rename_i ha
        split at hr
        · rename_i qx hX
          split at hr
          · rename_i hkd
            split at hr
            · rename_i hi
              obtain ⟨hj, t, g1, g2⟩ := F.2.2.2.2.2.2.1.1 _ _ hX
              have e1 : cV G (.inr (.inr (some a))) = .ref t := by show cR G a = _; unfold cR; rw [if_neg ha, g1]; rfl
              rw [List.map_cons, List.map_cons, e1]
              have fin := hn _ _ _ hr ls H locs hL h0 h1 hP hS
              rcases hk with ⟨rfl, rfl⟩ | ⟨rfl, rfl⟩
              · have h3 : a - 1000000 < 3 := by
                  simp at hkd
                  omega
                rw [if_pos h3] at g2
                exact va_ti F.1 F.2.1 g2 hS (inb_iff hi) rfl hd fin
              · have h3 : ¬ a - 1000000 < 3 := by
                  simp at hkd
                  omega
                rw [if_neg h3] at g2
                exact va_tb F.1 F.2.1 g2 hS (inb_iff hi) rfl hd fin
            · cases hr
          · cases hr
        · cases hr
    · cases hr
  · cases hr
theorem go_laload (F : Fx p s m args meth c cc nL own G X ini n0) (hlen : r.2.1.length ≤ 1000000) (hg : ∀ L st h, kn L st h = some r → hle h r.2) (hd : decode cc pc = .ok (.laload, 1)) (hn : Go p l e R s m args below meth c Q nL G n0 s0 r (pc + 1) kn) :
    Go p l e R s m args below meth c Q nL G n0 s0 r pc (fun L st h => bin2 st (fun x j q => arr h.1 x 51 j (fun a _ => kn L (.inr (.inl (h.2.2 a j.toNatClampNeg)) :: q) h))) := by
  intro L st h hr ls H locs hL h0 h1 hP hS
  dsimp only [bin2] at hr
  split at hr
  · rename_i j x q
    unfold arr at hr
    split at hr
    · rename_i a
      split at hr
      · rename_i cx hc
        split at hr
        · rename_i hcx
          split at hr
          · rename_i hi
            have hgt := cW_get (G := G) hc
            rw [cC_l hcx] at hgt
            rw [List.map_cons, List.map_cons, cV_own (len_ok (hg _ _ _ hr) hlen hc)]
            exact va_lald F.1 F.2.1 F.2.2.2.2.2.1 hP a 1 hgt rfl (inb_iff hi) hd (hn _ _ _ hr ls H locs hL h0 h1 hP hS)
          · cases hr
        · cases hr
      · cases hr
    · cases hr
  · cases hr
theorem rf_map (G : XG) (x : Option Nat) (hx : ∀ b, x = some b → b < 1000000) : va_rf (x.map (fun b => G.1 + b)) = cV G (.inr (.inr x)) := by
  cases x with
  | none => rfl
  | some b => rw [cV_own (hx b rfl)]; rfl
theorem go_aaload (F : Fx p s m args meth c cc nL own G X ini n0) (hlen : r.2.1.length ≤ 1000000) (hg : ∀ L st h, kn L st h = some r → hle h r.2) (hd : decode cc pc = .ok (.aaload, 1)) (hn : Go p l e R s m args below meth c Q nL G n0 s0 r (pc + 1) kn) :
    Go p l e R s m args below meth c Q nL G n0 s0 r pc (fun L st h => bin2 st (fun x j q => arrR h.1 x j (fun _ rs _ => if lowR (rs.getD j.toNatClampNeg none) = true then kn L (.inr (.inr (rs.getD j.toNatClampNeg none)) :: q) h else none))) := by
  intro L st h hr ls H locs hL h0 h1 hP hS
  dsimp only [bin2] at hr
  split at hr
  · rename_i j x q
    unfold arrR at hr
    split at hr
    · rename_i a
      split at hr
      · rename_i cx hc
        split at hr
        · rename_i hcx
          split at hr
          · rename_i hi
            dsimp only at hr
            split at hr
            · rename_i hlow
              have hgt := cW_get (G := G) hc
              rw [List.map_cons, List.map_cons, cV_own (len_ok (hg _ _ _ hr) hlen hc)]
              have fin := hn _ _ _ hr ls H locs hL h0 h1 hP hS
              rw [List.map_cons, ← rf_map G _ (fun b hb => by rw [hb] at hlow; simpa [lowR] using hlow)] at fin
              rcases hcx with hcx | hcx
              · rw [cC_w hcx] at hgt
                exact va_aldq F.1 F.2.1 F.2.2.2.2.2.1 hP a 3 hgt rfl (inb_iff hi) hd fin
              · rw [cC_p hcx] at hgt
                exact va_aldq F.1 F.2.1 F.2.2.2.2.2.1 hP a 4 hgt rfl (inb_iff hi) hd fin
            · cases hr
          · cases hr
        · cases hr
      · cases hr
    · cases hr
  · cases hr
theorem upd_eq (f : Nat → Nat → Int32) (a k : Nat) (x : Int32) : upd2 f a k x a = upd (f a) k x := by funext j; simp [upd2, upd]
theorem updL_eq (f : Nat → Nat → Int64) (a k : Nat) (x : Int64) : upd2 f a k x a = vp_updL (f a) k x := by funext j; simp [upd2, vp_updL]
theorem go_iastore (F : Fx p s m args meth c cc nL own G X ini n0) (hlen : r.2.1.length ≤ 1000000) (hg : ∀ L st h, kn L st h = some r → hle h r.2) (hd : decode cc pc = .ok (.iastore, 1)) (hn : Go p l e R s m args below meth c Q nL G n0 s0 r (pc + 1) kn) :
    Go p l e R s m args below meth c Q nL G n0 s0 r pc (fun L st h => match st with
    | .inl x :: .inl j :: .inr (.inr y) :: q => arr h.1 y 50 j (fun a _ => kn L q (h.1, upd2 h.2.1 a j.toNatClampNeg x, h.2.2))
    | _ => none) := by
  intro L st h hr ls H locs hL h0 h1 hP hS
  dsimp only at hr
  split at hr
  · rename_i x j y q
    unfold arr at hr
    split at hr
    · rename_i a
      split at hr
      · rename_i cx hc
        split at hr
        · rename_i hcx
          split at hr
          · rename_i hi
            have hgt := cW_get (G := G) hc
            rw [cC_i hcx] at hgt
            rw [List.map_cons, List.map_cons, List.map_cons, cV_own (len_ok (hg _ _ _ hr) hlen hc)]
            refine va_iast F.1 F.2.1 F.2.2.2.2.2.1 hP (cW_D G h) hS a 0 hgt rfl (inb_iff hi) hd (fun H1 locs1 q1 q2 q3 => ?_)
            refine hn _ _ _ hr ls H1 locs1 hL h0 h1 ?_ q3
            have e4 := cW_set (G := G) (h := h) (h2 := (h.1, upd2 h.2.1 a j.toNatClampNeg x, h.2.2)) (a := a) (c := cx) rfl (fun b hb => ⟨rfl, upd2_off _ _ _ _ hb, rfl⟩) hc
            rw [← upd_eq h.2.1 a] at q1
            rw [← e4, cC_i hcx]
            exact q1
          · cases hr
        · cases hr
      · cases hr
    · cases hr
  · cases hr
theorem go_bastore (F : Fx p s m args meth c cc nL own G X ini n0) (hlen : r.2.1.length ≤ 1000000) (hg : ∀ L st h, kn L st h = some r → hle h r.2) (hd : decode cc pc = .ok (.bastore, 1)) (hn : Go p l e R s m args below meth c Q nL G n0 s0 r (pc + 1) kn) :
    Go p l e R s m args below meth c Q nL G n0 s0 r pc (fun L st h => match st with
    | .inl x :: .inl j :: .inr (.inr y) :: q => if is01 x = true then arr h.1 y 52 j (fun a _ => kn L q (h.1, upd2 h.2.1 a j.toNatClampNeg x, h.2.2)) else none
    | _ => none) := by
  intro L st h hr ls H locs hL h0 h1 hP hS
  dsimp only at hr
  split at hr
  · rename_i x j y q
    split at hr
    · rename_i h01
      unfold arr at hr
      split at hr
      · rename_i a
        split at hr
        · rename_i cx hc
          split at hr
          · rename_i hcx
            split at hr
            · rename_i hi
              have hgt := cW_get (G := G) hc
              rw [cC_z hcx] at hgt
              rw [List.map_cons, List.map_cons, List.map_cons, cV_own (len_ok (hg _ _ _ hr) hlen hc)]
              refine va_zast F.1 F.2.1 F.2.2.2.2.2.1 hP (cW_D G h) hS a 2 hgt rfl (inb_iff hi) hd (fun H1 locs1 q1 q2 q3 => ?_)
              refine hn _ _ _ hr ls H1 locs1 hL h0 h1 ?_ q3
              have e4 := cW_set (G := G) (h := h) (h2 := (h.1, upd2 h.2.1 a j.toNatClampNeg x, h.2.2)) (a := a) (c := cx) rfl (fun b hb => ⟨rfl, upd2_off _ _ _ _ hb, rfl⟩) hc
              have e5 : vp_nar .boolean x = x := by
                unfold is01 at h01
                simp only [Bool.or_eq_true, decide_eq_true_eq] at h01
                rcases h01 with rfl | rfl <;> decide
              rw [e5] at q1
              rw [← upd_eq h.2.1 a] at q1
              rw [← e4, cC_z hcx]
              exact q1
            · cases hr
          · cases hr
        · cases hr
      · cases hr
    · cases hr
  · cases hr
theorem go_lastore (F : Fx p s m args meth c cc nL own G X ini n0) (hlen : r.2.1.length ≤ 1000000) (hg : ∀ L st h, kn L st h = some r → hle h r.2) (hd : decode cc pc = .ok (.lastore, 1)) (hn : Go p l e R s m args below meth c Q nL G n0 s0 r (pc + 1) kn) :
    Go p l e R s m args below meth c Q nL G n0 s0 r pc (fun L st h => match st with
    | .inr (.inl x) :: .inl j :: .inr (.inr y) :: q => arr h.1 y 51 j (fun a _ => kn L q (h.1, h.2.1, upd2 h.2.2 a j.toNatClampNeg x))
    | _ => none) := by
  intro L st h hr ls H locs hL h0 h1 hP hS
  dsimp only at hr
  split at hr
  · rename_i x j y q
    unfold arr at hr
    split at hr
    · rename_i a
      split at hr
      · rename_i cx hc
        split at hr
        · rename_i hcx
          split at hr
          · rename_i hi
            have hgt := cW_get (G := G) hc
            rw [cC_l hcx] at hgt
            rw [List.map_cons, List.map_cons, List.map_cons, cV_own (len_ok (hg _ _ _ hr) hlen hc)]
            refine va_last F.1 F.2.1 F.2.2.2.2.2.1 hP (cW_D G h) hS a 1 hgt rfl (inb_iff hi) hd (fun H1 locs1 q1 q2 q3 => ?_)
            refine hn _ _ _ hr ls H1 locs1 hL h0 h1 ?_ q3
            have e4 := cW_set (G := G) (h := h) (h2 := (h.1, h.2.1, upd2 h.2.2 a j.toNatClampNeg x)) (a := a) (c := cx) rfl (fun b hb => ⟨rfl, rfl, upd2_off _ _ _ _ hb⟩) hc
            rw [← updL_eq h.2.2 a] at q1
            rw [← e4, cC_l hcx]
            exact q1
          · cases hr
        · cases hr
      · cases hr
    · cases hr
  · cases hr
theorem cRs_set {G : XG} {rs : List (Option Nat)} {k : Nat} (h : k < rs.length) (x : Option Nat) : cRs G (rs.set k x) = va_up (cRs G rs) k (x.map (fun b => G.1 + b)) := by
  funext j
  unfold cRs va_up
  by_cases e : j = k
  · subst e
    rw [if_pos rfl, getD_set_self h]
  · rw [if_neg e, getD_set_ne e]
theorem go_aastore (F : Fx p s m args meth c cc nL own G X ini n0) (hlen : r.2.1.length ≤ 1000000) (hg : ∀ L st h, kn L st h = some r → hle h r.2) (hd : decode cc pc = .ok (.aastore, 1)) (hn : Go p l e R s m args below meth c Q nL G n0 s0 r (pc + 1) kn) :
    Go p l e R s m args below meth c Q nL G n0 s0 r pc (fun L st h => match st with
    | .inr (.inr x) :: .inl j :: .inr (.inr y) :: q => arrR h.1 y j (fun a rs cx => if fitR h.1 cx.1 x = true ∧ j.toNatClampNeg < rs.length then kn L q (h.1.set a (cx.1, cx.2.1, rs.set j.toNatClampNeg x), h.2.1, h.2.2) else none)
    | _ => none) := by
  intro L st h hr ls H locs hL h0 h1 hP hS
  dsimp only at hr
  split at hr
  · rename_i x j y q
    unfold arrR at hr
    split at hr
    · rename_i a
      split at hr
      · rename_i cx hc
        split at hr
        · rename_i hcx
          split at hr
          · rename_i hi
            dsimp only at hr
            split at hr
            · rename_i hfit
              obtain ⟨hfit, hjl⟩ := hfit
              have hlt : a < h.1.length := (List.getElem?_eq_some_iff.mp hc).1
              have hlm : h.1.length ≤ 1000000 := by
                have := hle_len (hg _ _ _ hr) hlen
                simp at this
                omega
              have hs1 : (h.1.set a (cx.1, cx.2.1, cx.2.2.set j.toNatClampNeg x)).length = h.1.length := by simp
              have hs2 : slt (h.1.set a (cx.1, cx.2.1, cx.2.2.set j.toNatClampNeg x)) = slt h.1 := slt_set hc rfl
              have hc2 : (h.1.set a (cx.1, cx.2.1, cx.2.2.set j.toNatClampNeg x))[a]? = some (cx.1, cx.2.1, cx.2.2.set j.toNatClampNeg x) := List.getElem?_set_self hlt
              have e4 := cW_set (G := G) (h := h) (h2 := (h.1.set a (cx.1, cx.2.1, cx.2.2.set j.toNatClampNeg x), h.2.1, h.2.2)) (a := a) hs1 (fun b hb => ⟨List.getElem?_set_ne (fun z => hb z.symm), rfl, rfl⟩) hc2
              have fin : ∀ (H1 : Heap) (locs1 : List Loc), va_P G.2.1 xcl (cW G (h.1.set a (cx.1, cx.2.1, cx.2.2.set j.toNatClampNeg x), h.2.1, h.2.2)) H1 → va_S (xA G) s.heap H1 locs1 → W p l e R s m args below meth c H1 locs1 (h.1.length - n0) (slt h.1 - s0) Q (F0 m (pc + 1) ls (q.map (cV G))) := by
                intro H1 locs1 q1 q3
                have hk3 : W p l e R s m args below meth c H1 locs1 ((h.1.set a (cx.1, cx.2.1, cx.2.2.set j.toNatClampNeg x)).length - n0) (slt (h.1.set a (cx.1, cx.2.1, cx.2.2.set j.toNatClampNeg x)) - s0) Q (F0 m (pc + 1) ls (q.map (cV G))) := hn _ _ _ hr ls H1 locs1 hL (by show n0 ≤ (h.1.set a _).length; rw [hs1]; exact h0) (by show s0 ≤ slt (h.1.set a _); rw [hs2]; exact h1) q1 q3
                rw [hs1, hs2] at hk3
                exact hk3
              rw [← e4] at fin
              have hgt := cW_get (G := G) hc
              rw [List.map_cons, List.map_cons, List.map_cons, cV_own (a := a) (by omega)]
              rcases hcx with hcx | hcx
              · rw [cC_w hcx] at hgt
                rw [cC_w (show ((cx.1, cx.2.1, cx.2.2.set j.toNatClampNeg x) : XC).1 = 53 from hcx)] at fin
                rw [show ((cx.1, cx.2.1, cx.2.2.set j.toNatClampNeg x) : XC).2.2 = cx.2.2.set j.toNatClampNeg x from rfl, cRs_set hjl] at fin
                cases x with
                | none => exact va_astqN F.1 F.2.1 F.2.2.2.2.2.1 hP (cW_D G h) hS a 3 hgt rfl (inb_iff hi) hd (fun H1 locs1 q1 _ q3 => fin H1 locs1 q1 q3)
                | some b =>
                  unfold fitR at hfit
                  dsimp only at hfit
                  split at hfit
                  · rename_i cb hcb
                    have hb9 : cb.1 = 9 := by simp at hfit; omega
                    have hblt : b < h.1.length := (List.getElem?_eq_some_iff.mp hcb).1
                    have hgb := cW_get (G := G) hcb
                    rw [cC_obj (by omega), hb9] at hgb
                    rw [cV_own (a := b) (by omega)]
                    exact va_astq F.1 F.2.1 F.2.2.2.2.2.1 hP (cW_D G h) hS a 3 b 9 (r := ("TamerState$World", xF9, 6)) hgt rfl hgb rfl (inb_iff hi) hd (fun H1 locs1 q1 _ q3 => fin H1 locs1 q1 q3)
                  · cases hfit
              · rw [cC_p hcx] at hgt
                rw [cC_p (show ((cx.1, cx.2.1, cx.2.2.set j.toNatClampNeg x) : XC).1 = 54 from hcx)] at fin
                rw [show ((cx.1, cx.2.1, cx.2.2.set j.toNatClampNeg x) : XC).2.2 = cx.2.2.set j.toNatClampNeg x from rfl, cRs_set hjl] at fin
                cases x with
                | none => exact va_astqN F.1 F.2.1 F.2.2.2.2.2.1 hP (cW_D G h) hS a 4 hgt rfl (inb_iff hi) hd (fun H1 locs1 q1 _ q3 => fin H1 locs1 q1 q3)
                | some b =>
                  unfold fitR at hfit
                  dsimp only at hfit
                  split at hfit
                  · rename_i cb hcb
                    have hb9 : cb.1 = 5 := by simp at hfit; omega
                    have hblt : b < h.1.length := (List.getElem?_eq_some_iff.mp hcb).1
                    have hgb := cW_get (G := G) hcb
                    rw [cC_obj (by omega), hb9] at hgb
                    rw [cV_own (a := b) (by omega)]
                    exact va_astq F.1 F.2.1 F.2.2.2.2.2.1 hP (cW_D G h) hS a 4 b 5 (r := ("TamerState$Program", xF5, 4)) hgt rfl hgb rfl (inb_iff hi) hd (fun H1 locs1 q1 _ q3 => fin H1 locs1 q1 q3)
                  · cases hfit
            · cases hr
          · cases hr
        · cases hr
      · cases hr
    · cases hr
  · cases hr
theorem go_alen (F : Fx p s m args meth c cc nL own G X ini n0) (hlen : r.2.1.length ≤ 1000000) (hg : ∀ L st h, kn L st h = some r → hle h r.2) (hd : decode cc pc = .ok (.arraylength, 1)) (hn : Go p l e R s m args below meth c Q nL G n0 s0 r (pc + 1) kn) :
    Go p l e R s m args below meth c Q nL G n0 s0 r pc (fun L st h => unR st (fun x q => alen X h.1 x (fun n => kn L (.inl n :: q) h))) := by
  intro L st h hr ls H locs hL h0 h1 hP hS
  dsimp only [unR] at hr
  split at hr
  · rename_i x q
    unfold alen at hr
    split at hr
    · rename_i a
      split at hr
      · rename_i ha
        split at hr
        · rename_i cx hc
          split at hr
          · rename_i hcx
            have hgt := cW_get (G := G) hc
            have fin := hn _ _ _ hr ls H locs hL h0 h1 hP hS
            rw [List.map_cons, cV_own ha]
            by_cases k0 : cx.1 = 50
            · rw [cC_i k0] at hgt
              exact va_alen F.1 F.2.1 F.2.2.2.2.2.1 hP a 0 hgt rfl rfl hd fin
            · by_cases k1 : cx.1 = 51
              · rw [cC_l k1] at hgt
                exact va_alen F.1 F.2.1 F.2.2.2.2.2.1 hP a 1 hgt rfl rfl hd fin
              · by_cases k2 : cx.1 = 52
                · rw [cC_z k2] at hgt
                  exact va_alen F.1 F.2.1 F.2.2.2.2.2.1 hP a 2 hgt rfl rfl hd fin
                · by_cases k3 : cx.1 = 53
                  · rw [cC_w k3] at hgt
                    exact va_alen F.1 F.2.1 F.2.2.2.2.2.1 hP a 3 hgt rfl rfl hd fin
                  · have e9 : cC G (h.2.1 a) (h.2.2 a) cx = .inl (G.2.2.1 4, cx.2.1, .inr (.inr (.inr (.inr (cRs G cx.2.2))))) := by
                      unfold cC
                      rw [if_neg (by omega), if_neg k0, if_neg k1, if_neg k2, if_neg k3]
                    rw [e9] at hgt
                    exact va_alen F.1 F.2.1 F.2.2.2.2.2.1 hP a 4 hgt rfl rfl hd fin
          · cases hr
        · cases hr
      · rename_i ha
        split at hr
        · rename_i qx hX
          obtain ⟨hj, t, g1, g2⟩ := F.2.2.2.2.2.2.1.1 _ _ hX
          have e1 : cV G (.inr (.inr (some a))) = .ref t := by show cR G a = _; unfold cR; rw [if_neg ha, g1]; rfl
          rw [List.map_cons, e1]
          exact va_tlen F.1 F.2.1 g2 hS rfl hd (hn _ _ _ hr ls H locs hL h0 h1 hP hS)
        · cases hr
    · cases hr
  · cases hr
end Heap3
