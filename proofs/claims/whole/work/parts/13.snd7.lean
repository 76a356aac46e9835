section Rest
variable {p : Program} {l : Launch} {e : Env} {R : Room} {s : State} {m : MethodId} {args : Array Value} {below : List Frame} {meth : Method} {c : Code} {Q : State → Prop} {cc : ByteArray} {nL : Nat} {own : String} {G : XG} {X : XE} {ini : Bool} {n0 s0 : Nat} {r : XR} {pc : Nat} {kn : XL → XS → XH → Option XR} {kj : Nat → XL → XS → XH → Option XR} {e2 : XP} {idx : Nat}
theorem swk_some {ρ : Type} (x : Int32) (f : Int → Option ρ) {r : ρ} : ∀ (os : List Int) (lo dflt : Int), swk x lo os dflt f = some r → ((x.toInt < lo ∨ lo + os.length ≤ x.toInt) ∧ f dflt = some r) ∨ (¬ x.toInt < lo ∧ ¬ lo + os.length ≤ x.toInt ∧ ∃ o, os[(x.toInt - lo).toNat]? = some o ∧ f o = some r) := by
  intro os
  induction os with
  | nil => intro lo dflt h; exact Or.inl ⟨by simp; omega, h⟩
  | cons o q ih =>
    intro lo dflt h
    simp only [swk] at h
    split at h
    · rename_i he
      refine Or.inr ⟨by omega, by simp; omega, o, ?_, h⟩
      rw [show (x.toInt - lo).toNat = 0 by omega]
      rfl
    · rename_i he
      rcases ih _ _ h with ⟨h1, h2⟩ | ⟨h1, h2, o2, h3, h4⟩
      · exact Or.inl ⟨by simp; omega, h2⟩
      · refine Or.inr ⟨by omega, by simp; omega, o2, ?_, h4⟩
        rw [show (x.toInt - lo).toNat = (x.toInt - (lo + 1)).toNat + 1 by omega]
        exact h3
theorem go_tsw (F : Fx p s m args meth c cc nL own G X ini n0) {d lo hi : Int} {os : Array Int} {n : Nat} (hd : decode cc pc = .ok (.tableswitch d lo hi os, n)) (ho : 0 ≤ (pc : Int) + d ∧ (∀ o ∈ os.toList, 0 ≤ (pc : Int) + o) ∧ (os.size : Int) = hi - lo + 1) (hj : ∀ t, Go p l e R s m args below meth c Q nL G n0 s0 r t (kj t)) :
    Go p l e R s m args below meth c Q nL G n0 s0 r pc (fun L st h => un st (fun x q => swk x lo os.toList d (fun o => kj (tgt pc o) L q h))) := by
  intro L st h hr ls H locs hL h0 h1 hP hS
  dsimp only [un] at hr
  split at hr
  · rename_i x q
    have hsz : (os.toList.length : Int) = hi - lo + 1 := by rw [Array.length_toList]; exact ho.2.2
    rcases swk_some _ _ _ _ _ hr with ⟨h2, h3⟩ | ⟨h2, h3, o, h4, h5⟩
    · exact lv_tableOut F.1 F.2.1 hd (by omega) (tgt_ok ho.1) (hj _ _ _ _ h3 ls H locs hL h0 h1 hP hS)
    · refine lv_tableIn F.1 F.2.1 hd h2 (by omega) (off := o) ?_ (tgt_ok (ho.2.1 o (List.mem_of_getElem? h4))) (hj _ _ _ _ h5 ls H locs hL h0 h1 hP hS)
      rw [← Array.getElem?_toList]
      exact h4
  · cases hr
theorem go_cast (F : Fx p s m args meth c cc nL own G X ini n0) (hlen : r.2.1.length ≤ 1000000) (hg : ∀ L st h, kn L st h = some r → hle h r.2) (hp : e2.1 = 99 ∨ ∃ q, okP own (idx, e2, q) = true) (hd : decode cc pc = .ok (.checkcast idx, 3)) (hn : Go p l e R s m args below meth c Q nL G n0 s0 r (pc + 3) kn) :
    Go p l e R s m args below meth c Q nL G n0 s0 r pc (fun L st h => match e2.1 with
    | 35 => match st with
      | .inr (.inr (some a)) :: q => (match h.1[a]? with
        | some cx => if cx.1 = 50 then kn L (.inr (.inr (some a)) :: q) h else none
        | none => none)
      | _ => none
    | _ => none) := by
  intro L st h hr ls H locs hL h0 h1 hP hS
  dsimp only at hr
  split at hr
  · rename_i he
    obtain ⟨qq, hp⟩ : ∃ q, okP own (idx, e2, q) = true := hp.resolve_left (by omega)
    simp [okP, he] at hp
    split at hr
    · rename_i a q
      split at hr
      · rename_i cx hc
        split at hr
        · rename_i hcx
          have hgt := cW_get (G := G) hc
          rw [cC_i hcx] at hgt
          have hnm : s.vm.findClass "[I" = some (G.2.2.1 0) := (F.2.2.2.2.2.1.2 0 _ (rfl : (xtl G)[0]? = some (G.2.2.1 0, .int))).2
          have fin := hn _ _ _ hr ls H locs hL h0 h1 hP hS
          rw [List.map_cons, cV_own (len_ok (hg _ _ _ hr) hlen hc)] at fin ⊢
          exact va_castA F.1 F.2.1 F.2.2.2.1 (F.2.2.2.2.1 _ (xat_in hp)) hP a hgt hnm hd fin
        · cases hr
      · cases hr
    · cases hr
  · cases hr
theorem hml_of (F : Fx p s m args meth c cc nL own G X ini n0) {ls : Array Slot} {L : XL} (hL : LH G ls nL L) : c.maxLocals = ls.size := F.2.2.1.trans hL.1.symm
theorem go_stat (F : Fx p s m args meth c cc nL own G X ini n0) (hRf : 1 ≤ R.frames ∧ 40 ≤ R.locals) (hR : r.2.1.length - n0 ≤ R.cells ∧ slt r.2.1 - s0 ≤ R.slots) (hlen : r.2.1.length ≤ 1000000) (hg : ∀ L st h, kn L st h = some r → hle h r.2) (hp : e2.1 = 99 ∨ ∃ q, okP own (idx, e2, q) = true) (hd : decode cc pc = .ok (.invokestatic idx, 3)) (hn : Go p l e R s m args below meth c Q nL G n0 s0 r (pc + 3) kn) (k4 : XL → XS → XH → Option XR) (hk4 : e2.1 = 4 → Go p l e R s m args below meth c Q nL G n0 s0 r pc k4) :
    Go p l e R s m args below meth c Q nL G n0 s0 r pc (fun L st h => match e2.1 with
    | 4 => k4 L st h
    | 30 => match st with
      | .inl n :: .inl dp :: .inr (.inr (some a)) :: .inl sp :: .inr (.inr (some b)) :: q => if xcats q ≤ 8 then xcopy h b sp a dp n (fun h2 => kn L q h2) else none
      | _ => none
    | 31 => bin st (fun x y q => if xcats q ≤ 8 then kn L (.inl (if x < y then y else x) :: q) h else none)
    | 32 => bin st (fun x y q => if xcats q ≤ 8 then kn L (.inl (if y < x then y else x) :: q) h else none)
    | 33 => un st (fun x q => if xcats q ≤ 8 then kn L (.inl (if 0 ≤ x then x else 0 - x) :: q) h else none)
    | _ => none) := by
  intro L st h hr ls H locs hL h0 h1 hP hS
  dsimp only at hr
  split at hr
  · rename_i he
    exact hk4 he L st h hr ls H locs hL h0 h1 hP hS
  · rename_i he
    obtain ⟨qq, hp⟩ : ∃ q, okP own (idx, e2, q) = true := hp.resolve_left (by omega)
    simp [okP, he] at hp
    split at hr
    · rename_i n dp a sp b q
      split at hr
      · rename_i hq8
        unfold xcopy at hr
        split at hr
        · rename_i cb ca hcb hca
          split at hr
          · rename_i hall
            simp only [Bool.and_eq_true, decide_eq_true_eq] at hall
            obtain ⟨⟨⟨⟨⟨⟨k1, k2⟩, k3⟩, k4'⟩, k5⟩, k6⟩, k7⟩ := hall
            have hgb := cW_get (G := G) hcb
            have hga := cW_get (G := G) hca
            rw [cC_i k1] at hgb
            rw [cC_i k2] at hga
            have hla := len_ok (hg _ _ _ hr) hlen hca
            have hlb := len_ok (hg _ _ _ hr) hlen hcb
            have e0 : ((.inl n :: .inl dp :: .inr (.inr (some a)) :: .inl sp :: .inr (.inr (some b)) :: q : XS)).map (cV G) = .int n :: .int dp :: .ref (G.1 + a) :: .int sp :: .ref (G.1 + b) :: q.map (cV G) := by
              simp only [List.map_cons, cV_own hla, cV_own hlb]; rfl
            rw [e0]
            refine va_copyi F.1 F.2.1 (hml_of F hL) F.2.2.2.1 (F.2.2.2.2.1 _ (xat_in hp)) (F.2.2.2.2.1 _ xg_acn) (F.2.2.2.2.1 _ xg_acs) (F.2.2.2.2.1 _ xg_sys) F.2.2.2.2.2.1 hP (cW_D G h) hS b a 0 0 hgb hga rfl rfl rfl k3 k4' k5 k6 k7 (fun i _ => rfl) hRf.1 ?_ hd (fun H1 locs1 q1 _ q3 => ?_)
            · rw [cats_eq]
              have : nativeFrameWords "java/lang/System" "arraycopy" 5 = 7 := by decide +kernel
              omega
            · refine hn _ _ _ hr ls H1 locs1 hL h0 h1 ?_ q3
              have e4 := cW_set (G := G) (h := h) (h2 := (h.1, upr h.2.1 a (va_cpy (h.2.1 b) (h.2.1 a) sp.toNatClampNeg dp.toNatClampNeg n.toNatClampNeg), h.2.2)) (a := a) (c := ca) rfl (fun b hb => ⟨rfl, upr_off _ _ _ hb, rfl⟩) hca
              rw [← upr_self h.2.1 a (va_cpy (h.2.1 b) (h.2.1 a) sp.toNatClampNeg dp.toNatClampNeg n.toNatClampNeg)] at q1
              rw [← e4, cC_i k2]
              exact q1
          · cases hr
        · cases hr
      · cases hr
    · cases hr
  · rename_i he
    obtain ⟨qq, hp⟩ : ∃ q, okP own (idx, e2, q) = true := hp.resolve_left (by omega)
    simp [okP, he] at hp
    unfold bin at hr
    split at hr
    · rename_i y x q
      dsimp only at hr
      split at hr
      · rename_i hq8
        have hgr := hg _ _ _ hr
        have a1 := hgr.1
        have a2 := hgr.2
        exact va_mmax F.1 F.2.1 (hml_of F hL) F.2.2.2.1 (F.2.2.2.2.1 _ (xat_in hp)) (F.2.2.2.2.1 _ xg_mmaxs) (F.2.2.2.2.1 _ xg_math) (F.2.2.2.2.1 _ xg_mmaxc) hRf.1 (by rw [cats_eq]; omega) (by omega) (by omega) hd (hn _ _ _ hr ls H locs hL h0 h1 hP hS)
      · cases hr
    · cases hr
  · rename_i he
    obtain ⟨qq, hp⟩ : ∃ q, okP own (idx, e2, q) = true := hp.resolve_left (by omega)
    simp [okP, he] at hp
    unfold bin at hr
    split at hr
    · rename_i y x q
      dsimp only at hr
      split at hr
      · rename_i hq8
        have hgr := hg _ _ _ hr
        have a1 := hgr.1
        have a2 := hgr.2
        exact va_mmin F.1 F.2.1 (hml_of F hL) F.2.2.2.1 (F.2.2.2.2.1 _ (xat_in hp)) (F.2.2.2.2.1 _ xg_mmins) (F.2.2.2.2.1 _ xg_math) (F.2.2.2.2.1 _ xg_mminc) hRf.1 (by rw [cats_eq]; omega) (by omega) (by omega) hd (hn _ _ _ hr ls H locs hL h0 h1 hP hS)
      · cases hr
    · cases hr
  · rename_i he
    obtain ⟨qq, hp⟩ : ∃ q, okP own (idx, e2, q) = true := hp.resolve_left (by omega)
    simp [okP, he] at hp
    unfold un at hr
    split at hr
    · rename_i x q
      dsimp only at hr
      split at hr
      · rename_i hq8
        have hgr := hg _ _ _ hr
        have a1 := hgr.1
        have a2 := hgr.2
        exact va_mabs F.1 F.2.1 (hml_of F hL) F.2.2.2.1 (F.2.2.2.2.1 _ (xat_in hp)) (F.2.2.2.2.1 _ xg_mabss) (F.2.2.2.2.1 _ xg_math) (F.2.2.2.2.1 _ xg_mabsc) hRf.1 (by rw [cats_eq]; omega) (by omega) (by omega) hd (hn _ _ _ hr ls H locs hL h0 h1 hP hS)
      · cases hr
    · cases hr
  · cases hr
end Rest
