section Simple
variable {p : Program} {l : Launch} {e : Env} {R : Room} {s : State} {m : MethodId} {args : Array Value} {below : List Frame} {meth : Method} {c : Code} {Q : State → Prop} {cc : ByteArray} {nL : Nat} {own : String} {G : XG} {X : XE} {ini : Bool} {n0 s0 : Nat} {r : XR} {pc : Nat} {kn : XL → XS → XH → Option XR} {kj : Nat → XL → XS → XH → Option XR}
theorem go_aload (F : Fx p s m args meth c cc nL own G X ini n0) {i : Nat} (hd : decode cc pc = .ok (.aload i, 2)) (hn : Go p l e R s m args below meth c Q nL G n0 s0 r (pc + 2) kn) : Go p l e R s m args below meth c Q nL G n0 s0 r pc (fun L st h => sld L i 2 (fun v => kn L (v :: st) h)) := by
  intro L st h hr ls H locs hL h0 h1 hP hS
  dsimp only [sld] at hr
  split at hr
  · rw [if_neg (by decide)] at hr; cases hr
  · rw [if_neg (by decide)] at hr; cases hr
  · rename_i v hq
    rw [if_pos rfl] at hr
    exact w_aload F.1 F.2.1 (cV_rf G _) hd (hL.2.2.2 _ _ hq) (hn _ _ _ hr ls H locs hL h0 h1 hP hS)
  · cases hr
theorem go_aload_n (F : Fx p s m args meth c cc nL own G X ini n0) {i : Fin 4} (hd : decode cc pc = .ok (.aload_n i, 1)) (hn : Go p l e R s m args below meth c Q nL G n0 s0 r (pc + 1) kn) : Go p l e R s m args below meth c Q nL G n0 s0 r pc (fun L st h => sld L i.val 2 (fun v => kn L (v :: st) h)) := by
  intro L st h hr ls H locs hL h0 h1 hP hS
  dsimp only [sld] at hr
  split at hr
  · rw [if_neg (by decide)] at hr; cases hr
  · rw [if_neg (by decide)] at hr; cases hr
  · rename_i v hq
    rw [if_pos rfl] at hr
    exact w_aload_n F.1 F.2.1 (cV_rf G _) hd (hL.2.2.2 _ _ hq) (hn _ _ _ hr ls H locs hL h0 h1 hP hS)
  · cases hr
theorem go_iload (F : Fx p s m args meth c cc nL own G X ini n0) {i : Nat} (hd : decode cc pc = .ok (.iload i, 2)) (hn : Go p l e R s m args below meth c Q nL G n0 s0 r (pc + 2) kn) : Go p l e R s m args below meth c Q nL G n0 s0 r pc (fun L st h => sld L i 0 (fun v => kn L (v :: st) h)) := by
  intro L st h hr ls H locs hL h0 h1 hP hS
  dsimp only [sld] at hr
  split at hr
  · rename_i v hq
    rw [if_pos rfl] at hr
    exact lv_iload F.1 F.2.1 hd (hL.2.2.2 _ _ hq) (hn _ _ _ hr ls H locs hL h0 h1 hP hS)
  · rw [if_neg (by decide)] at hr; cases hr
  · rw [if_neg (by decide)] at hr; cases hr
  · cases hr
theorem go_iload_n (F : Fx p s m args meth c cc nL own G X ini n0) {i : Fin 4} (hd : decode cc pc = .ok (.iload_n i, 1)) (hn : Go p l e R s m args below meth c Q nL G n0 s0 r (pc + 1) kn) : Go p l e R s m args below meth c Q nL G n0 s0 r pc (fun L st h => sld L i.val 0 (fun v => kn L (v :: st) h)) := by
  intro L st h hr ls H locs hL h0 h1 hP hS
  dsimp only [sld] at hr
  split at hr
  · rename_i v hq
    rw [if_pos rfl] at hr
    exact lv_iload_n F.1 F.2.1 hd rfl (hL.2.2.2 _ _ hq) (hn _ _ _ hr ls H locs hL h0 h1 hP hS)
  · rw [if_neg (by decide)] at hr; cases hr
  · rw [if_neg (by decide)] at hr; cases hr
  · cases hr
theorem go_lload (F : Fx p s m args meth c cc nL own G X ini n0) {i : Nat} (hd : decode cc pc = .ok (.lload i, 2)) (hn : Go p l e R s m args below meth c Q nL G n0 s0 r (pc + 2) kn) : Go p l e R s m args below meth c Q nL G n0 s0 r pc (fun L st h => sld L i 1 (fun v => kn L (v :: st) h)) := by
  intro L st h hr ls H locs hL h0 h1 hP hS
  dsimp only [sld] at hr
  split at hr
  · rw [if_neg (by decide)] at hr; cases hr
  · rename_i v hq
    rw [if_pos rfl] at hr
    exact lv_lload F.1 F.2.1 hd (hL.2.2.2 _ _ hq) (hn _ _ _ hr ls H locs hL h0 h1 hP hS)
  · rw [if_neg (by decide)] at hr; cases hr
  · cases hr
theorem go_lload_n (F : Fx p s m args meth c cc nL own G X ini n0) {i : Fin 4} (hd : decode cc pc = .ok (.lload_n i, 1)) (hn : Go p l e R s m args below meth c Q nL G n0 s0 r (pc + 1) kn) : Go p l e R s m args below meth c Q nL G n0 s0 r pc (fun L st h => sld L i.val 1 (fun v => kn L (v :: st) h)) := by
  intro L st h hr ls H locs hL h0 h1 hP hS
  dsimp only [sld] at hr
  split at hr
  · rw [if_neg (by decide)] at hr; cases hr
  · rename_i v hq
    rw [if_pos rfl] at hr
    exact lv_lload_n F.1 F.2.1 hd rfl (hL.2.2.2 _ _ hq) (hn _ _ _ hr ls H locs hL h0 h1 hP hS)
  · rw [if_neg (by decide)] at hr; cases hr
  · cases hr
theorem go_astore (F : Fx p s m args meth c cc nL own G X ini n0) {i : Nat} (hd : decode cc pc = .ok (.astore i, 2)) (hn : Go p l e R s m args below meth c Q nL G n0 s0 r (pc + 2) kn) : Go p l e R s m args below meth c Q nL G n0 s0 r pc (fun L st h => sst L i 2 st (fun l q => kn l q h)) := by
  intro L st h hr ls H locs hL h0 h1 hP hS
  dsimp only [sst] at hr
  split at hr
  · rw [if_neg (by decide)] at hr; cases hr
  · rw [if_neg (by decide)] at hr; cases hr
  · rename_i x q
    rw [if_pos rfl] at hr
    split at hr
    · rename_i hlt
      rw [hL.2.2.1] at hlt
      exact w_astore F.1 F.2.1 (cV_rf G _) hd hL.has hlt rfl (fun ls' hl => hn _ _ _ hr ls' H locs (LH.sto1 (v := (.inr (.inr x))) hL hl) h0 h1 hP hS)
    · cases hr
  · cases hr
theorem go_astore_n (F : Fx p s m args meth c cc nL own G X ini n0) {i : Fin 4} (hd : decode cc pc = .ok (.astore_n i, 1)) (hn : Go p l e R s m args below meth c Q nL G n0 s0 r (pc + 1) kn) : Go p l e R s m args below meth c Q nL G n0 s0 r pc (fun L st h => sst L i.val 2 st (fun l q => kn l q h)) := by
  intro L st h hr ls H locs hL h0 h1 hP hS
  dsimp only [sst] at hr
  split at hr
  · rw [if_neg (by decide)] at hr; cases hr
  · rw [if_neg (by decide)] at hr; cases hr
  · rename_i x q
    rw [if_pos rfl] at hr
    split at hr
    · rename_i hlt
      rw [hL.2.2.1] at hlt
      exact w_astore_n F.1 F.2.1 (cV_rf G _) hd hL.has hlt rfl (fun ls' hl => hn _ _ _ hr ls' H locs (LH.sto1 (v := (.inr (.inr x))) hL hl) h0 h1 hP hS)
    · cases hr
  · cases hr
theorem go_istore (F : Fx p s m args meth c cc nL own G X ini n0) {i : Nat} (hd : decode cc pc = .ok (.istore i, 2)) (hn : Go p l e R s m args below meth c Q nL G n0 s0 r (pc + 2) kn) : Go p l e R s m args below meth c Q nL G n0 s0 r pc (fun L st h => sst L i 0 st (fun l q => kn l q h)) := by
  intro L st h hr ls H locs hL h0 h1 hP hS
  dsimp only [sst] at hr
  split at hr
  · rename_i x q
    rw [if_pos rfl] at hr
    split at hr
    · rename_i hlt
      rw [hL.2.2.1] at hlt
      exact lv_istore F.1 F.2.1 hd hL.has hlt rfl (fun ls' hl => hn _ _ _ hr ls' H locs (LH.sto1 (v := (.inl x)) hL hl) h0 h1 hP hS)
    · cases hr
  · rw [if_neg (by decide)] at hr; cases hr
  · rw [if_neg (by decide)] at hr; cases hr
  · cases hr
theorem go_istore_n (F : Fx p s m args meth c cc nL own G X ini n0) {i : Fin 4} (hd : decode cc pc = .ok (.istore_n i, 1)) (hn : Go p l e R s m args below meth c Q nL G n0 s0 r (pc + 1) kn) : Go p l e R s m args below meth c Q nL G n0 s0 r pc (fun L st h => sst L i.val 0 st (fun l q => kn l q h)) := by
  intro L st h hr ls H locs hL h0 h1 hP hS
  dsimp only [sst] at hr
  split at hr
  · rename_i x q
    rw [if_pos rfl] at hr
    split at hr
    · rename_i hlt
      rw [hL.2.2.1] at hlt
      exact lv_istore_n F.1 F.2.1 hd rfl hL.has hlt rfl (fun ls' hl => hn _ _ _ hr ls' H locs (LH.sto1 (v := (.inl x)) hL hl) h0 h1 hP hS)
    · cases hr
  · rw [if_neg (by decide)] at hr; cases hr
  · rw [if_neg (by decide)] at hr; cases hr
  · cases hr
theorem go_lstore (F : Fx p s m args meth c cc nL own G X ini n0) {i : Nat} (hd : decode cc pc = .ok (.lstore i, 2)) (hn : Go p l e R s m args below meth c Q nL G n0 s0 r (pc + 2) kn) : Go p l e R s m args below meth c Q nL G n0 s0 r pc (fun L st h => sst L i 1 st (fun l q => kn l q h)) := by
  intro L st h hr ls H locs hL h0 h1 hP hS
  dsimp only [sst] at hr
  split at hr
  · rw [if_neg (by decide)] at hr; cases hr
  · rename_i x q
    rw [if_pos rfl] at hr
    split at hr
    · rename_i hlt
      rw [hL.2.2.1] at hlt
      exact lv_lstore F.1 F.2.1 hd hL.has hlt rfl (fun ls' hl => hn _ _ _ hr ls' H locs (LH.sto2 (v := (.inr (.inl x))) hL hl) h0 h1 hP hS)
    · cases hr
  · rw [if_neg (by decide)] at hr; cases hr
  · cases hr
theorem go_lstore_n (F : Fx p s m args meth c cc nL own G X ini n0) {i : Fin 4} (hd : decode cc pc = .ok (.lstore_n i, 1)) (hn : Go p l e R s m args below meth c Q nL G n0 s0 r (pc + 1) kn) : Go p l e R s m args below meth c Q nL G n0 s0 r pc (fun L st h => sst L i.val 1 st (fun l q => kn l q h)) := by
  intro L st h hr ls H locs hL h0 h1 hP hS
  dsimp only [sst] at hr
  split at hr
  · rw [if_neg (by decide)] at hr; cases hr
  · rename_i x q
    rw [if_pos rfl] at hr
    split at hr
    · rename_i hlt
      rw [hL.2.2.1] at hlt
      exact lv_lstore_n F.1 F.2.1 hd rfl hL.has hlt rfl (fun ls' hl => hn _ _ _ hr ls' H locs (LH.sto2 (v := (.inr (.inl x))) hL hl) h0 h1 hP hS)
    · cases hr
  · rw [if_neg (by decide)] at hr; cases hr
  · cases hr
theorem go_iinc (F : Fx p s m args meth c cc nL own G X ini n0) {i : Nat} {n : Int} (hv : Int32.ofInt n = xlit n) (hd : decode cc pc = .ok (.iinc i n, 3)) (hn : Go p l e R s m args below meth c Q nL G n0 s0 r (pc + 3) kn) : Go p l e R s m args below meth c Q nL G n0 s0 r pc (fun L st h => sld L i 0 (fun v => match v with
    | .inl x => if i < L.length then kn (sto1 L i (.inl (x + xlit n))) st h else none
    | _ => none)) := by
  intro L st h hr ls H locs hL h0 h1 hP hS
  dsimp only [sld] at hr
  split at hr
  · rename_i x hq
    rw [if_pos rfl] at hr
    split at hr
    · rename_i hlt
      rw [hL.2.2.1] at hlt
      obtain ⟨j, hj⟩ := List.getElem?_of_mem (al_mem.mpr ⟨.inl x, hq, rfl⟩ : (i, cV G (.inl x)) ∈ al G L)
      exact lv_iinc F.1 F.2.1 hd hL.has (k := j) hj (by rw [hv]) hlt rfl (fun ls' hl => hn _ _ _ hr ls' H locs (LH.sto1 (v := .inl (x + xlit n)) hL hl) h0 h1 hP hS)
    · cases hr
  · rw [if_neg (by decide)] at hr; cases hr
  · rw [if_neg (by decide)] at hr; cases hr
  · cases hr
theorem go_null (F : Fx p s m args meth c cc nL own G X ini n0) (hd : decode cc pc = .ok (.aconst_null, 1)) (hn : Go p l e R s m args below meth c Q nL G n0 s0 r (pc + 1) kn) : Go p l e R s m args below meth c Q nL G n0 s0 r pc (fun L st h => kn L (.inr (.inr none) :: st) h) := by
  intro L st h hr ls H locs hL h0 h1 hP hS
  exact lv_null F.1 F.2.1 hd (hn _ _ _ hr ls H locs hL h0 h1 hP hS)
theorem go_iconst (F : Fx p s m args meth c cc nL own G X ini n0) {n : Int} (hv : Int32.ofInt n = xlit n) (hd : decode cc pc = .ok (.iconst n, 1)) (hn : Go p l e R s m args below meth c Q nL G n0 s0 r (pc + 1) kn) : Go p l e R s m args below meth c Q nL G n0 s0 r pc (fun L st h => kn L (.inl (xlit n) :: st) h) := by
  intro L st h hr ls H locs hL h0 h1 hP hS
  exact lv_iconst F.1 F.2.1 hd hv (hn _ _ _ hr ls H locs hL h0 h1 hP hS)
theorem go_bipush (F : Fx p s m args meth c cc nL own G X ini n0) {n : Int} (hv : (Int8.ofInt n).toInt32 = xlit n) (hd : decode cc pc = .ok (.bipush n, 2)) (hn : Go p l e R s m args below meth c Q nL G n0 s0 r (pc + 2) kn) : Go p l e R s m args below meth c Q nL G n0 s0 r pc (fun L st h => kn L (.inl (xlit n) :: st) h) := by
  intro L st h hr ls H locs hL h0 h1 hP hS
  exact lv_bipush F.1 F.2.1 hd hv (hn _ _ _ hr ls H locs hL h0 h1 hP hS)
theorem go_sipush (F : Fx p s m args meth c cc nL own G X ini n0) {n : Int} (hv : (Int16.ofInt n).toInt32 = xlit n) (hd : decode cc pc = .ok (.sipush n, 3)) (hn : Go p l e R s m args below meth c Q nL G n0 s0 r (pc + 3) kn) : Go p l e R s m args below meth c Q nL G n0 s0 r pc (fun L st h => kn L (.inl (xlit n) :: st) h) := by
  intro L st h hr ls H locs hL h0 h1 hP hS
  exact lv_sipush F.1 F.2.1 hd hv (hn _ _ _ hr ls H locs hL h0 h1 hP hS)
theorem go_lconst (F : Fx p s m args meth c cc nL own G X ini n0) {n : Fin 2} (hd : decode cc pc = .ok (.lconst n, 1)) (hn : Go p l e R s m args below meth c Q nL G n0 s0 r (pc + 1) kn) : Go p l e R s m args below meth c Q nL G n0 s0 r pc (fun L st h => kn L (.inr (.inl (lN n.val)) :: st) h) := by
  intro L st h hr ls H locs hL h0 h1 hP hS
  exact lv_lconst F.1 F.2.1 hd rfl (hn _ _ _ hr ls H locs hL h0 h1 hP hS)
theorem go_iadd (F : Fx p s m args meth c cc nL own G X ini n0) (hd : decode cc pc = .ok (.iadd, 1)) (hn : Go p l e R s m args below meth c Q nL G n0 s0 r (pc + 1) kn) : Go p l e R s m args below meth c Q nL G n0 s0 r pc (fun L st h => bin st (fun x y q => kn L (.inl (x + y) :: q) h)) := by
  intro L st h hr ls H locs hL h0 h1 hP hS
  dsimp only [bin] at hr
  split at hr
  · rename_i y x q
    exact lv_iadd F.1 F.2.1 hd (hn _ _ _ hr ls H locs hL h0 h1 hP hS)
  · cases hr
theorem go_isub (F : Fx p s m args meth c cc nL own G X ini n0) (hd : decode cc pc = .ok (.isub, 1)) (hn : Go p l e R s m args below meth c Q nL G n0 s0 r (pc + 1) kn) : Go p l e R s m args below meth c Q nL G n0 s0 r pc (fun L st h => bin st (fun x y q => kn L (.inl (x - y) :: q) h)) := by
  intro L st h hr ls H locs hL h0 h1 hP hS
  dsimp only [bin] at hr
  split at hr
  · rename_i y x q
    exact lv_isub F.1 F.2.1 hd (hn _ _ _ hr ls H locs hL h0 h1 hP hS)
  · cases hr
theorem go_imul (F : Fx p s m args meth c cc nL own G X ini n0) (hd : decode cc pc = .ok (.imul, 1)) (hn : Go p l e R s m args below meth c Q nL G n0 s0 r (pc + 1) kn) : Go p l e R s m args below meth c Q nL G n0 s0 r pc (fun L st h => bin st (fun x y q => kn L (.inl (x * y) :: q) h)) := by
  intro L st h hr ls H locs hL h0 h1 hP hS
  dsimp only [bin] at hr
  split at hr
  · rename_i y x q
    exact lv_imul F.1 F.2.1 hd (hn _ _ _ hr ls H locs hL h0 h1 hP hS)
  · cases hr
theorem go_iand (F : Fx p s m args meth c cc nL own G X ini n0) (hd : decode cc pc = .ok (.iand, 1)) (hn : Go p l e R s m args below meth c Q nL G n0 s0 r (pc + 1) kn) : Go p l e R s m args below meth c Q nL G n0 s0 r pc (fun L st h => bin st (fun x y q => kn L (.inl (x &&& y) :: q) h)) := by
  intro L st h hr ls H locs hL h0 h1 hP hS
  dsimp only [bin] at hr
  split at hr
  · rename_i y x q
    exact lv_iand F.1 F.2.1 hd (hn _ _ _ hr ls H locs hL h0 h1 hP hS)
  · cases hr
theorem go_ior (F : Fx p s m args meth c cc nL own G X ini n0) (hd : decode cc pc = .ok (.ior, 1)) (hn : Go p l e R s m args below meth c Q nL G n0 s0 r (pc + 1) kn) : Go p l e R s m args below meth c Q nL G n0 s0 r pc (fun L st h => bin st (fun x y q => kn L (.inl (x ||| y) :: q) h)) := by
  intro L st h hr ls H locs hL h0 h1 hP hS
  dsimp only [bin] at hr
  split at hr
  · rename_i y x q
    exact lv_ior F.1 F.2.1 hd (hn _ _ _ hr ls H locs hL h0 h1 hP hS)
  · cases hr
theorem go_ixor (F : Fx p s m args meth c cc nL own G X ini n0) (hd : decode cc pc = .ok (.ixor, 1)) (hn : Go p l e R s m args below meth c Q nL G n0 s0 r (pc + 1) kn) : Go p l e R s m args below meth c Q nL G n0 s0 r pc (fun L st h => bin st (fun x y q => kn L (.inl (x ^^^ y) :: q) h)) := by
  intro L st h hr ls H locs hL h0 h1 hP hS
  dsimp only [bin] at hr
  split at hr
  · rename_i y x q
    exact lv_ixor F.1 F.2.1 hd (hn _ _ _ hr ls H locs hL h0 h1 hP hS)
  · cases hr
theorem go_ishl (F : Fx p s m args meth c cc nL own G X ini n0) (hd : decode cc pc = .ok (.ishl, 1)) (hn : Go p l e R s m args below meth c Q nL G n0 s0 r (pc + 1) kn) : Go p l e R s m args below meth c Q nL G n0 s0 r pc (fun L st h => bin st (fun x y q => kn L (.inl (x <<< (y &&& 31)) :: q) h)) := by
  intro L st h hr ls H locs hL h0 h1 hP hS
  dsimp only [bin] at hr
  split at hr
  · rename_i y x q
    exact lv_ishl F.1 F.2.1 hd (hn _ _ _ hr ls H locs hL h0 h1 hP hS)
  · cases hr
theorem go_ishr (F : Fx p s m args meth c cc nL own G X ini n0) (hd : decode cc pc = .ok (.ishr, 1)) (hn : Go p l e R s m args below meth c Q nL G n0 s0 r (pc + 1) kn) : Go p l e R s m args below meth c Q nL G n0 s0 r pc (fun L st h => bin st (fun x y q => kn L (.inl (x >>> (y &&& 31)) :: q) h)) := by
  intro L st h hr ls H locs hL h0 h1 hP hS
  dsimp only [bin] at hr
  split at hr
  · rename_i y x q
    exact lv_ishr F.1 F.2.1 hd (hn _ _ _ hr ls H locs hL h0 h1 hP hS)
  · cases hr
theorem go_iushr (F : Fx p s m args meth c cc nL own G X ini n0) (hd : decode cc pc = .ok (.iushr, 1)) (hn : Go p l e R s m args below meth c Q nL G n0 s0 r (pc + 1) kn) : Go p l e R s m args below meth c Q nL G n0 s0 r pc (fun L st h => bin st (fun x y q => kn L (.inl (x.toUInt32 >>> (y.toUInt32 &&& Int32.toUInt32 31)).toInt32 :: q) h)) := by
  intro L st h hr ls H locs hL h0 h1 hP hS
  dsimp only [bin] at hr
  split at hr
  · rename_i y x q
    exact lv_iushr F.1 F.2.1 hd rfl (hn _ _ _ hr ls H locs hL h0 h1 hP hS)
  · cases hr
theorem go_idiv (F : Fx p s m args meth c cc nL own G X ini n0) (hd : decode cc pc = .ok (.idiv, 1)) (hn : Go p l e R s m args below meth c Q nL G n0 s0 r (pc + 1) kn) : Go p l e R s m args below meth c Q nL G n0 s0 r pc (fun L st h => bin st (fun x y q => if y = 0 then none else kn L (.inl (x / y) :: q) h)) := by
  intro L st h hr ls H locs hL h0 h1 hP hS
  dsimp only [bin] at hr
  split at hr
  · rename_i y x q
    split at hr
    · cases hr
    · rename_i hne
      exact lv_idiv F.1 F.2.1 hd hne (hn _ _ _ hr ls H locs hL h0 h1 hP hS)
  · cases hr
theorem go_irem (F : Fx p s m args meth c cc nL own G X ini n0) (hd : decode cc pc = .ok (.irem, 1)) (hn : Go p l e R s m args below meth c Q nL G n0 s0 r (pc + 1) kn) : Go p l e R s m args below meth c Q nL G n0 s0 r pc (fun L st h => bin st (fun x y q => if y = 0 then none else kn L (.inl (x - x / y * y) :: q) h)) := by
  intro L st h hr ls H locs hL h0 h1 hP hS
  dsimp only [bin] at hr
  split at hr
  · rename_i y x q
    split at hr
    · cases hr
    · rename_i hne
      exact lv_irem F.1 F.2.1 hd hne (hn _ _ _ hr ls H locs hL h0 h1 hP hS)
  · cases hr
theorem go_ldiv (F : Fx p s m args meth c cc nL own G X ini n0) (hd : decode cc pc = .ok (.ldiv, 1)) (hn : Go p l e R s m args below meth c Q nL G n0 s0 r (pc + 1) kn) : Go p l e R s m args below meth c Q nL G n0 s0 r pc (fun L st h => binL st (fun x y q => if y = 0 then none else kn L (.inr (.inl (x / y)) :: q) h)) := by
  intro L st h hr ls H locs hL h0 h1 hP hS
  dsimp only [binL] at hr
  split at hr
  · rename_i y x q
    split at hr
    · cases hr
    · rename_i hne
      exact lv_ldiv F.1 F.2.1 hd hne (hn _ _ _ hr ls H locs hL h0 h1 hP hS)
  · cases hr
theorem go_lrem (F : Fx p s m args meth c cc nL own G X ini n0) (hd : decode cc pc = .ok (.lrem, 1)) (hn : Go p l e R s m args below meth c Q nL G n0 s0 r (pc + 1) kn) : Go p l e R s m args below meth c Q nL G n0 s0 r pc (fun L st h => binL st (fun x y q => if y = 0 then none else kn L (.inr (.inl (x - x / y * y)) :: q) h)) := by
  intro L st h hr ls H locs hL h0 h1 hP hS
  dsimp only [binL] at hr
  split at hr
  · rename_i y x q
    split at hr
    · cases hr
    · rename_i hne
      exact lv_lrem F.1 F.2.1 hd hne (hn _ _ _ hr ls H locs hL h0 h1 hP hS)
  · cases hr
theorem go_ladd (F : Fx p s m args meth c cc nL own G X ini n0) (hd : decode cc pc = .ok (.ladd, 1)) (hn : Go p l e R s m args below meth c Q nL G n0 s0 r (pc + 1) kn) : Go p l e R s m args below meth c Q nL G n0 s0 r pc (fun L st h => binL st (fun x y q => kn L (.inr (.inl (x + y)) :: q) h)) := by
  intro L st h hr ls H locs hL h0 h1 hP hS
  dsimp only [binL] at hr
  split at hr
  · rename_i y x q
    exact lv_ladd F.1 F.2.1 hd (hn _ _ _ hr ls H locs hL h0 h1 hP hS)
  · cases hr
theorem go_lsub (F : Fx p s m args meth c cc nL own G X ini n0) (hd : decode cc pc = .ok (.lsub, 1)) (hn : Go p l e R s m args below meth c Q nL G n0 s0 r (pc + 1) kn) : Go p l e R s m args below meth c Q nL G n0 s0 r pc (fun L st h => binL st (fun x y q => kn L (.inr (.inl (x - y)) :: q) h)) := by
  intro L st h hr ls H locs hL h0 h1 hP hS
  dsimp only [binL] at hr
  split at hr
  · rename_i y x q
    exact lv_lsub F.1 F.2.1 hd (hn _ _ _ hr ls H locs hL h0 h1 hP hS)
  · cases hr
theorem go_lmul (F : Fx p s m args meth c cc nL own G X ini n0) (hd : decode cc pc = .ok (.lmul, 1)) (hn : Go p l e R s m args below meth c Q nL G n0 s0 r (pc + 1) kn) : Go p l e R s m args below meth c Q nL G n0 s0 r pc (fun L st h => binL st (fun x y q => kn L (.inr (.inl (x * y)) :: q) h)) := by
  intro L st h hr ls H locs hL h0 h1 hP hS
  dsimp only [binL] at hr
  split at hr
  · rename_i y x q
    exact lv_lmul F.1 F.2.1 hd (hn _ _ _ hr ls H locs hL h0 h1 hP hS)
  · cases hr
theorem go_lcmp (F : Fx p s m args meth c cc nL own G X ini n0) (hd : decode cc pc = .ok (.lcmp, 1)) (hn : Go p l e R s m args below meth c Q nL G n0 s0 r (pc + 1) kn) : Go p l e R s m args below meth c Q nL G n0 s0 r pc (fun L st h => binL st (fun x y q => kn L (.inl (lg_cmp x y) :: q) h)) := by
  intro L st h hr ls H locs hL h0 h1 hP hS
  dsimp only [binL] at hr
  split at hr
  · rename_i y x q
    exact W.lcmp F.1 F.2.1 hd (hn _ _ _ hr ls H locs hL h0 h1 hP hS)
  · cases hr
theorem go_ineg (F : Fx p s m args meth c cc nL own G X ini n0) (hd : decode cc pc = .ok (.ineg, 1)) (hn : Go p l e R s m args below meth c Q nL G n0 s0 r (pc + 1) kn) : Go p l e R s m args below meth c Q nL G n0 s0 r pc (fun L st h => un st (fun x q => kn L (.inl (-x) :: q) h)) := by
  intro L st h hr ls H locs hL h0 h1 hP hS
  dsimp only [un] at hr
  split at hr
  · rename_i x q
    exact lv_ineg F.1 F.2.1 hd (hn _ _ _ hr ls H locs hL h0 h1 hP hS)
  · cases hr
theorem go_i2l (F : Fx p s m args meth c cc nL own G X ini n0) (hd : decode cc pc = .ok (.i2l, 1)) (hn : Go p l e R s m args below meth c Q nL G n0 s0 r (pc + 1) kn) : Go p l e R s m args below meth c Q nL G n0 s0 r pc (fun L st h => un st (fun x q => kn L (.inr (.inl x.toInt64) :: q) h)) := by
  intro L st h hr ls H locs hL h0 h1 hP hS
  dsimp only [un] at hr
  split at hr
  · rename_i x q
    exact lv_i2l F.1 F.2.1 hd rfl (hn _ _ _ hr ls H locs hL h0 h1 hP hS)
  · cases hr
theorem go_i2c (F : Fx p s m args meth c cc nL own G X ini n0) (hd : decode cc pc = .ok (.i2c, 1)) (hn : Go p l e R s m args below meth c Q nL G n0 s0 r (pc + 1) kn) : Go p l e R s m args below meth c Q nL G n0 s0 r pc (fun L st h => un st (fun x q => kn L (.inl (x.toUInt32 % 65536).toInt32 :: q) h)) := by
  intro L st h hr ls H locs hL h0 h1 hP hS
  dsimp only [un] at hr
  split at hr
  · rename_i x q
    exact lv_i2c F.1 F.2.1 hd rfl (hn _ _ _ hr ls H locs hL h0 h1 hP hS)
  · cases hr
theorem go_l2i (F : Fx p s m args meth c cc nL own G X ini n0) (hd : decode cc pc = .ok (.l2i, 1)) (hn : Go p l e R s m args below meth c Q nL G n0 s0 r (pc + 1) kn) : Go p l e R s m args below meth c Q nL G n0 s0 r pc (fun L st h => match st with
    | .inr (.inl x) :: q => kn L (.inl x.toInt32 :: q) h
    | _ => none) := by
  intro L st h hr ls H locs hL h0 h1 hP hS
  dsimp only at hr
  split at hr
  · exact lv_l2i F.1 F.2.1 hd rfl (hn _ _ _ hr ls H locs hL h0 h1 hP hS)
  · cases hr
theorem go_lshl (F : Fx p s m args meth c cc nL own G X ini n0) (hd : decode cc pc = .ok (.lshl, 1)) (hn : Go p l e R s m args below meth c Q nL G n0 s0 r (pc + 1) kn) : Go p l e R s m args below meth c Q nL G n0 s0 r pc (fun L st h => match st with
    | .inl y :: .inr (.inl x) :: q => kn L (.inr (.inl (x <<< (y.toInt64 &&& 63))) :: q) h
    | _ => none) := by
  intro L st h hr ls H locs hL h0 h1 hP hS
  dsimp only at hr
  split at hr
  · exact lv_lshl F.1 F.2.1 hd rfl (hn _ _ _ hr ls H locs hL h0 h1 hP hS)
  · cases hr
theorem go_dup (F : Fx p s m args meth c cc nL own G X ini n0) (hd : decode cc pc = .ok (.dup, 1)) (hn : Go p l e R s m args below meth c Q nL G n0 s0 r (pc + 1) kn) : Go p l e R s m args below meth c Q nL G n0 s0 r pc (fun L st h => match st with
    | v :: q => if xcat v = 1 then kn L (v :: v :: q) h else none
    | _ => none) := by
  intro L st h hr ls H locs hL h0 h1 hP hS
  dsimp only at hr
  split at hr
  · split at hr
    · rename_i hc
      exact lv_dup F.1 F.2.1 hd ((cV_cat G _).trans hc) (hn _ _ _ hr ls H locs hL h0 h1 hP hS)
    · cases hr
  · cases hr
theorem go_pop (F : Fx p s m args meth c cc nL own G X ini n0) (hd : decode cc pc = .ok (.pop, 1)) (hn : Go p l e R s m args below meth c Q nL G n0 s0 r (pc + 1) kn) : Go p l e R s m args below meth c Q nL G n0 s0 r pc (fun L st h => match st with
    | v :: q => if xcat v = 1 then kn L q h else none
    | _ => none) := by
  intro L st h hr ls H locs hL h0 h1 hP hS
  dsimp only at hr
  split at hr
  · split at hr
    · rename_i hc
      exact lv_pop F.1 F.2.1 hd ((cV_cat G _).trans hc) (hn _ _ _ hr ls H locs hL h0 h1 hP hS)
    · cases hr
  · cases hr
theorem go_dup2 (F : Fx p s m args meth c cc nL own G X ini n0) (hd : decode cc pc = .ok (.dup2, 1)) (hn : Go p l e R s m args below meth c Q nL G n0 s0 r (pc + 1) kn) : Go p l e R s m args below meth c Q nL G n0 s0 r pc (fun L st h => match st with
    | .inr (.inl x) :: q => kn L (.inr (.inl x) :: .inr (.inl x) :: q) h
    | v :: w :: q => if xcat v = 1 ∧ xcat w = 1 then kn L (v :: w :: v :: w :: q) h else none
    | _ => none) := by
  intro L st h hr ls H locs hL h0 h1 hP hS
  dsimp only at hr
  split at hr
  · exact lv_dup2_2 F.1 F.2.1 hd rfl (hn _ _ _ hr ls H locs hL h0 h1 hP hS)
  · split at hr
    · rename_i hc
      exact lv_dup2_11 F.1 F.2.1 hd ((cV_cat G _).trans hc.1) ((cV_cat G _).trans hc.2) (hn _ _ _ hr ls H locs hL h0 h1 hP hS)
    · cases hr
  · cases hr
theorem tgt_ok {pc : Nat} {off : Int} (h : 0 ≤ (pc : Int) + off) : (pc : Int) + off = (tgt pc off : Int) := by unfold tgt; omega
theorem go_goto (F : Fx p s m args meth c cc nL own G X ini n0) {off : Int} (ho : 0 ≤ (pc : Int) + off) (hd : decode cc pc = .ok (.goto off, 3)) (hn : Go p l e R s m args below meth c Q nL G n0 s0 r (pc + 3) kn) (hj : ∀ t, Go p l e R s m args below meth c Q nL G n0 s0 r t (kj t)) : Go p l e R s m args below meth c Q nL G n0 s0 r pc (fun L st h => kj (tgt pc off) L st h) := by
  intro L st h hr ls H locs hL h0 h1 hP hS
  exact lv_goto F.1 F.2.1 hd (tgt_ok ho) (hj _ _ _ _ hr ls H locs hL h0 h1 hP hS)
theorem go_ifCond (F : Fx p s m args meth c cc nL own G X ini n0) {cd : ClassFile.Cond} {off : Int} (ho : 0 ≤ (pc : Int) + off) (hd : decode cc pc = .ok (.ifCond cd off, 3)) (hn : Go p l e R s m args below meth c Q nL G n0 s0 r (pc + 3) kn) (hj : ∀ t, Go p l e R s m args below meth c Q nL G n0 s0 r t (kj t)) : Go p l e R s m args below meth c Q nL G n0 s0 r pc (fun L st h => un st (fun x q => ifc cd x 0 (kj (tgt pc off) L q h) (kn L q h))) := by
  intro L st h hr ls H locs hL h0 h1 hP hS
  dsimp only [un] at hr
  split at hr
  · rename_i x q
    cases cd <;> dsimp only [ifc] at hr
    · refine lv_if_eq F.1 F.2.1 hd (tgt_ok ho) (fun hq => ?_) (fun hq => ?_)
      · rw [if_pos hq] at hr
        exact hj _ _ _ _ hr ls H locs hL h0 h1 hP hS
      · rw [if_neg hq] at hr
        exact hn _ _ _ hr ls H locs hL h0 h1 hP hS
    · refine lv_if_ne F.1 F.2.1 hd (tgt_ok ho) (fun hq => ?_) (fun hq => ?_)
      · rw [if_neg hq] at hr
        exact hj _ _ _ _ hr ls H locs hL h0 h1 hP hS
      · rw [if_pos hq] at hr
        exact hn _ _ _ hr ls H locs hL h0 h1 hP hS
    · refine lv_if_lt F.1 F.2.1 hd (tgt_ok ho) (fun hq => ?_) (fun hq => ?_)
      · rw [if_pos hq] at hr
        exact hj _ _ _ _ hr ls H locs hL h0 h1 hP hS
      · rw [if_neg hq] at hr
        exact hn _ _ _ hr ls H locs hL h0 h1 hP hS
    · refine lv_if_ge F.1 F.2.1 hd (tgt_ok ho) (fun hq => ?_) (fun hq => ?_)
      · rw [if_pos hq] at hr
        exact hj _ _ _ _ hr ls H locs hL h0 h1 hP hS
      · rw [if_neg hq] at hr
        exact hn _ _ _ hr ls H locs hL h0 h1 hP hS
    · refine lv_if_gt F.1 F.2.1 hd (tgt_ok ho) (fun hq => ?_) (fun hq => ?_)
      · rw [if_pos hq] at hr
        exact hj _ _ _ _ hr ls H locs hL h0 h1 hP hS
      · rw [if_neg hq] at hr
        exact hn _ _ _ hr ls H locs hL h0 h1 hP hS
    · refine lv_if_le F.1 F.2.1 hd (tgt_ok ho) (fun hq => ?_) (fun hq => ?_)
      · rw [if_pos hq] at hr
        exact hj _ _ _ _ hr ls H locs hL h0 h1 hP hS
      · rw [if_neg hq] at hr
        exact hn _ _ _ hr ls H locs hL h0 h1 hP hS
  · cases hr
theorem go_icmp (F : Fx p s m args meth c cc nL own G X ini n0) {cd : ClassFile.Cond} {off : Int} (ho : 0 ≤ (pc : Int) + off) (hd : decode cc pc = .ok (.if_icmp cd off, 3)) (hn : Go p l e R s m args below meth c Q nL G n0 s0 r (pc + 3) kn) (hj : ∀ t, Go p l e R s m args below meth c Q nL G n0 s0 r t (kj t)) : Go p l e R s m args below meth c Q nL G n0 s0 r pc (fun L st h => bin st (fun x y q => ifc cd x y (kj (tgt pc off) L q h) (kn L q h))) := by
  intro L st h hr ls H locs hL h0 h1 hP hS
  dsimp only [bin] at hr
  split at hr
  · rename_i y x q
    cases cd <;> dsimp only [ifc] at hr
    · refine lv_icmp_eq F.1 F.2.1 hd (tgt_ok ho) (fun hq => ?_) (fun hq => ?_)
      · rw [if_pos hq] at hr
        exact hj _ _ _ _ hr ls H locs hL h0 h1 hP hS
      · rw [if_neg hq] at hr
        exact hn _ _ _ hr ls H locs hL h0 h1 hP hS
    · refine lv_icmp_ne F.1 F.2.1 hd (tgt_ok ho) (fun hq => ?_) (fun hq => ?_)
      · rw [if_neg hq] at hr
        exact hj _ _ _ _ hr ls H locs hL h0 h1 hP hS
      · rw [if_pos hq] at hr
        exact hn _ _ _ hr ls H locs hL h0 h1 hP hS
    · refine lv_icmp_lt F.1 F.2.1 hd (tgt_ok ho) (fun hq => ?_) (fun hq => ?_)
      · rw [if_pos hq] at hr
        exact hj _ _ _ _ hr ls H locs hL h0 h1 hP hS
      · rw [if_neg hq] at hr
        exact hn _ _ _ hr ls H locs hL h0 h1 hP hS
    · refine lv_icmp_ge F.1 F.2.1 hd (tgt_ok ho) (fun hq => ?_) (fun hq => ?_)
      · rw [if_pos hq] at hr
        exact hj _ _ _ _ hr ls H locs hL h0 h1 hP hS
      · rw [if_neg hq] at hr
        exact hn _ _ _ hr ls H locs hL h0 h1 hP hS
    · refine lv_icmp_gt F.1 F.2.1 hd (tgt_ok ho) (fun hq => ?_) (fun hq => ?_)
      · rw [if_pos hq] at hr
        exact hj _ _ _ _ hr ls H locs hL h0 h1 hP hS
      · rw [if_neg hq] at hr
        exact hn _ _ _ hr ls H locs hL h0 h1 hP hS
    · refine lv_icmp_le F.1 F.2.1 hd (tgt_ok ho) (fun hq => ?_) (fun hq => ?_)
      · rw [if_pos hq] at hr
        exact hj _ _ _ _ hr ls H locs hL h0 h1 hP hS
      · rw [if_neg hq] at hr
        exact hn _ _ _ hr ls H locs hL h0 h1 hP hS
  · cases hr
theorem go_ifnonnull (F : Fx p s m args meth c cc nL own G X ini n0) {off : Int} (ho : 0 ≤ (pc : Int) + off) (hd : decode cc pc = .ok (.ifnonnull off, 3)) (hn : Go p l e R s m args below meth c Q nL G n0 s0 r (pc + 3) kn) (hj : ∀ t, Go p l e R s m args below meth c Q nL G n0 s0 r t (kj t)) : Go p l e R s m args below meth c Q nL G n0 s0 r pc (fun L st h => unR st (fun x q => match x with
    | none => kn L q h
    | some b => if b < 1000000 then kj (tgt pc off) L q h else none)) := by
  intro L st h hr ls H locs hL h0 h1 hP hS
  dsimp only [unR] at hr
  split at hr
  · rename_i x q
    cases x with
    | none => exact lv_ifnonnullN F.1 F.2.1 hd (hn _ _ _ hr ls H locs hL h0 h1 hP hS)
    | some b =>
      dsimp only at hr
      split at hr
      · rename_i hb
        have e1 : cV G (.inr (.inr (some b))) = .ref (G.1 + b) := by show cR G b = _; unfold cR; rw [if_pos hb]
        rw [List.map_cons, e1]
        exact lv_ifnonnull F.1 F.2.1 hd (tgt_ok ho) (hj _ _ _ _ hr ls H locs hL h0 h1 hP hS)
      · cases hr
  · cases hr
end Simple
