section Heap2
variable {p : Program} {l : Launch} {e : Env} {R : Room} {s : State} {m : MethodId} {args : Array Value} {below : List Frame} {meth : Method} {c : Code} {Q : State → Prop} {cc : ByteArray} {nL : Nat} {own : String} {G : XG} {X : XE} {ini : Bool} {n0 s0 : Nat} {r : XR} {pc : Nat} {kn : XL → XS → XH → Option XR} {kj : Nat → XL → XS → XH → Option XR} {e2 : XP} {idx : Nat}
theorem hle_len {h : XH} {r : XR} (hg : hle h r.2) (hlen : r.2.1.length ≤ 1000000) : h.1.length ≤ 1000000 := Nat.le_trans hg.1 hlen
/-- a store into a field: what the rows want, at once for all kinds -/
theorem w_putf (F : Fx p s m args meth c cc nL own G X ini n0) {H : Heap} {locs : List Loc} {cells slots : Nat} {ls : Array Slot} {rest : List Value} {h : XH} {a : Nat} {cx : XC} {v : Value} (hc : h.1[a]? = some cx) {q : Nat × Nat} (hp : okP own (idx, e2, q) = true) (he : e2.1 = 1) (hk : cx.1 = e2.2.1 ∧ e2.2.2.1 < cx.2.1) (hd : decode cc pc = .ok (.putfield idx, 3)) (hP : va_P G.2.1 xcl (cW G h) H) (hS : va_S (xA G) s.heap H locs)
    (hn : narrow (xft e2.2.1 e2.2.2.1) v = v) (hfit : fits (xft e2.2.1 e2.2.2.1) v = true) (hfin : e2.2.2.2 < 4 ∨ (ini = true ∧ 4 ≤ e2.2.2.2 ∧ (xcl[e2.2.1]?).map (fun c => c.1) = some own))
    (k : ∀ (H1 : Heap) (locs1 : List Loc), va_P G.2.1 xcl ((cW G h).set a (G.1 + a, .inr (e2.2.1, (cFs G e2.2.1 cx.2.1 (h.2.1 a) (h.2.2 a) cx.2.2).set e2.2.2.1 v))) H1 → va_S (xA G) s.heap H1 locs1 → W p l e R s m args below meth c H1 locs1 cells slots Q (F0 m (pc + 3) ls rest)) : W p l e R s m args below meth c H locs cells slots Q (F0 m pc ls (v :: .ref (G.1 + a) :: rest)) := by
  obtain ⟨w, hw, h1, h2, h3⟩ := okP_field hp he
  have hci := xcl_lt hw
  have hg := cW_get (G := G) hc
  rw [cC_obj (by rw [hk.1]; exact hci), hk.1] at hg
  have hsame : ∀ x, s.fieldFound? (w.2.1 e2.2.2.1).1 (w.2.1 e2.2.2.1).2.1 (w.2.1 e2.2.2.1).2.2.1 = some x → s.fieldFound? w.1 (w.2.1 e2.2.2.1).2.1 (w.2.1 e2.2.2.1).2.2.1 = some x := by rw [(xcl_own _ _ hw _ h1).1]; exact fun x h => h
  have hty := xcl_ty _ _ hw
  have ho := xcl_own _ _ hw _ h1
  have hl : e2.2.2.1 < (cFs G e2.2.1 cx.2.1 (h.2.1 a) (h.2.2 a) cx.2.2).length := by rw [cFs_len]; exact hk.2
  rcases hfin with hfin | ⟨hi, hfin, hown⟩
  · have hff : (w.2.1 e2.2.2.1).2.2.2 = false := by rw [ho.2, h2]; simp; omega
    rcases h3 with h3 | ⟨-, h3⟩
    · exact va_put F.1 F.2.1 F.2.2.2.2.1 (xcl_w _ _ hw).1 (xft e2.2.1) hty (xcl_nm _ _ hw) F.2.2.2.1 F.2.2.2.2.2.1 hP (cW_D G h) hS a hg hw _ h1 (F.2.2.2.2.1 _ h3) hsame hff (hty _ h1) hn hfit hl hd (fun H1 locs1 q1 q2 q3 => k H1 locs1 q1 q3)
    · exact va_putN F.1 F.2.1 F.2.2.2.2.1 (xcl_w _ _ hw).1 (xft e2.2.1) hty (xcl_nm _ _ hw) F.2.2.2.1 F.2.2.2.2.2.1 hP (cW_D G h) hS a hg hw _ h1 ((F.2.2.2.2.2.2.1.2.2.2.2.2.2.2.2.1 _ h3).use rfl) hsame hff (hty _ h1) hn hfit hl hd (fun H1 locs1 q1 q2 q3 => k H1 locs1 q1 q3)
  · have hff : (w.2.1 e2.2.2.1).2.2.2 = true := by rw [ho.2, h2]; simp; omega
    have hwo : w.1 = own := by
      rw [hw] at hown
      exact Option.some.inj hown
    rcases h3 with h3 | ⟨hne, -⟩
    · exact va_putF F.1 F.2.1 F.2.2.2.2.1 (xcl_w _ _ hw).1 (xft e2.2.1) hty (xcl_nm _ _ hw) F.2.2.2.1 F.2.2.2.2.2.1 hP (cW_D G h) hS a hg hw _ h1 (F.2.2.2.2.1 _ h3) hsame hff (F.2.2.2.2.2.2.2.1 hi) (ho.1.trans hwo) (hty _ h1) hn hfit hl hd (fun H1 locs1 q1 q2 q3 => k H1 locs1 q1 q3)
    · exact absurd hwo hne
theorem upd2_self {α : Type} (f : Nat → Nat → α) (a k : Nat) (x : α) : upd2 f a k x a k = x := by simp [upd2]
theorem upd2_row {α : Type} (f : Nat → Nat → α) (a k : Nat) (x : α) {j : Nat} (h : j ≠ k) : upd2 f a k x a j = f a j := by simp [upd2, h]
theorem upd2_off {α : Type} (f : Nat → Nat → α) (a k : Nat) (x : α) {b : Nat} (h : b ≠ a) : upd2 f a k x b = f b := by funext j; simp [upd2, h]
theorem upr_self {α : Type} (f : Nat → Nat → α) (a : Nat) (g : Nat → α) : upr f a g a = g := by funext j; simp [upr]
theorem upr_off {α : Type} (f : Nat → Nat → α) (a : Nat) (g : Nat → α) {b : Nat} (h : b ≠ a) : upr f a g b = f b := by funext j; simp [upr, h]
theorem go_putfield (F : Fx p s m args meth c cc nL own G X ini n0) (hlen : r.2.1.length ≤ 1000000) (hg : ∀ L st h, kn L st h = some r → hle h r.2) (hp : e2.1 = 99 ∨ ∃ q, okP own (idx, e2, q) = true) (hpo : e2.2.2.2 ≠ 6 ∨ (xcl[e2.2.1]?).map (fun c => c.1) = some own) (hd : decode cc pc = .ok (.putfield idx, 3)) (hn : Go p l e R s m args below meth c Q nL G n0 s0 r (pc + 3) kn) :
    Go p l e R s m args below meth c Q nL G n0 s0 r pc (fun L st h => match e2.1 with
    | 1 => pfld h ini st e2 (fun q h2 => kn L q h2)
    | _ => none) := by
  intro L st h hr ls H locs hL h0 h1 hP hS
  dsimp only at hr
  split at hr
  · rename_i he
    obtain ⟨qq, hp⟩ : ∃ q, okP own (idx, e2, q) = true := hp.resolve_left (by omega)
    obtain ⟨w, hw, g1, g2, -⟩ := okP_field hp he
    have htk := xcl_tk _ _ hw _ g1
    rw [g2] at htk
    unfold pfld at hr
    split at hr
    · rename_i x rr q
      unfold obj at hr
      split at hr
      · rename_i a
        split at hr
        · rename_i cx hc
          split at hr
          · rename_i hk
            have fin : kn L q (h.1, upd2 h.2.1 a e2.2.2.1 x, h.2.2) = some r → (e2.2.2.2 = 0 ∨ e2.2.2.2 = 3) → narrow (xft e2.2.1 e2.2.2.1) (.int x) = .int x → fits (xft e2.2.1 e2.2.2.1) (.int x) = true → W p l e R s m args below meth c H locs (h.1.length - n0) (slt h.1 - s0) Q (F0 m pc ls (.int x :: cV G (.inr (.inr (some a))) :: q.map (cV G))) := by
              intro hv hz hn1 hf1
              rw [cV_own (len_ok (hg _ _ _ hv) hlen hc)]
              refine w_putf F hc hp he hk hd hP hS hn1 hf1 (Or.inl (by omega)) (fun H1 locs1 q1 q3 => ?_)
              refine hn _ _ _ hv ls H1 locs1 hL h0 h1 ?_ q3
              have e1 : cC G (upd2 h.2.1 a e2.2.2.1 x a) (h.2.2 a) cx = .inr (e2.2.1, (cFs G e2.2.1 cx.2.1 (h.2.1 a) (h.2.2 a) cx.2.2).set e2.2.2.1 (.int x)) := by
                rw [cC_obj (by rw [hk.1]; exact xcl_lt hw), hk.1, cFs_i (by rw [g2]; exact hz) (upd2_self _ _ _ _) (fun j hj => upd2_row _ _ _ _ hj)]
              rw [← e1] at q1
              have e4 := cW_set (G := G) (h := h) (h2 := (h.1, upd2 h.2.1 a e2.2.2.1 x, h.2.2)) (a := a) (c := cx) rfl (fun b hb => ⟨rfl, upd2_off _ _ _ _ hb, rfl⟩) hc
              rw [← e4]
              exact q1
            split at hr
            · rename_i h9
              have h8 : xft e2.2.1 e2.2.2.1 = .int := by
                rw [h9] at htk
                unfold tyOK at htk
                split at htk <;> first | assumption | simp at htk
              exact fin hr (Or.inl h9) (by rw [h8]; rfl) (by rw [h8]; rfl)
            · rename_i h9
              split at hr
              · rename_i h01
                have h8 : xft e2.2.1 e2.2.2.1 = .boolean := by
                  rw [h9] at htk
                  unfold tyOK at htk
                  split at htk <;> first | assumption | simp at htk
                unfold is01 at h01
                simp only [Bool.or_eq_true, decide_eq_true_eq] at h01
                refine fin hr (Or.inr h9) ?_ ?_
                · rw [h8]; rcases h01 with rfl | rfl <;> decide
                · rw [h8]; rcases h01 with rfl | rfl <;> decide
              · cases hr
            · cases hr
          · cases hr
        · cases hr
      · cases hr
    · rename_i x rr q
      unfold obj at hr
      split at hr
      · rename_i a
        split at hr
        · rename_i cx hc
          split at hr
          · rename_i hk
            split at hr
            · rename_i h9
              have h8 : xft e2.2.1 e2.2.2.1 = .long := by
                rw [h9] at htk
                unfold tyOK at htk
                split at htk <;> first | assumption | simp at htk
              rw [List.map_cons, List.map_cons, cV_own (len_ok (hg _ _ _ hr) hlen hc)]
              refine w_putf F hc hp he hk hd hP hS (by rw [h8]; rfl) (by rw [h8]; rfl) (Or.inl (by omega)) (fun H1 locs1 q1 q3 => ?_)
              refine hn _ _ _ hr ls H1 locs1 hL h0 h1 ?_ q3
              have e1 : cC G (h.2.1 a) (upd2 h.2.2 a e2.2.2.1 x a) cx = .inr (e2.2.1, (cFs G e2.2.1 cx.2.1 (h.2.1 a) (h.2.2 a) cx.2.2).set e2.2.2.1 (.long x)) := by
                rw [cC_obj (by rw [hk.1]; exact xcl_lt hw), hk.1, cFs_l (by rw [g2]; exact h9) (upd2_self _ _ _ _) (fun j hj => upd2_row _ _ _ _ hj)]
              have e4 := cW_set (G := G) (h := h) (h2 := (h.1, h.2.1, upd2 h.2.2 a e2.2.2.1 x)) (a := a) (c := cx) rfl (fun b hb => ⟨rfl, rfl, upd2_off _ _ _ _ hb⟩) hc
              rw [← e4]
              rw [show ((h.1, h.2.1, upd2 h.2.2 a e2.2.2.1 x) : XH).2.2 a = upd2 h.2.2 a e2.2.2.1 x a from rfl, show ((h.1, h.2.1, upd2 h.2.2 a e2.2.2.1 x) : XH).2.1 a = h.2.1 a from rfl, e1]
              exact q1
            · cases hr
          · cases hr
        · cases hr
      · cases hr
    · rename_i x rr q
      unfold obj at hr
      split at hr
      · rename_i a
        split at hr
        · rename_i cx hc
          split at hr
          · rename_i hk
            have fin : kn L q (h.1.set a (cx.1, cx.2.1, cx.2.2.set e2.2.2.1 x), h.2.1, h.2.2) = some r → e2.2.2.1 < cx.2.2.length → (e2.2.2.2 = 2 ∨ e2.2.2.2 = 6) → (e2.2.2.2 < 4 ∨ (ini = true ∧ 4 ≤ e2.2.2.2 ∧ (xcl[e2.2.1]?).map (fun c => c.1) = some own)) → W p l e R s m args below meth c H locs (h.1.length - n0) (slt h.1 - s0) Q (F0 m pc ls (cV G (.inr (.inr x)) :: cV G (.inr (.inr (some a))) :: q.map (cV G))) := by
              intro hv hl hz hfi
              have hrefs : narrow (xft e2.2.1 e2.2.2.1) (cV G (.inr (.inr x))) = cV G (.inr (.inr x)) ∧ fits (xft e2.2.1 e2.2.2.1) (cV G (.inr (.inr x))) = true := by
                have h8 : (∃ nm, xft e2.2.1 e2.2.2.1 = .object nm) ∨ ∃ t, xft e2.2.1 e2.2.2.1 = .array t := by
                  unfold tyOK at htk
                  split at htk
                  · simp at htk; omega
                  · simp at htk; omega
                  · simp at htk; omega
                  · exact Or.inl ⟨_, by assumption⟩
                  · exact Or.inr ⟨_, by assumption⟩
                  · cases htk
                rcases h8 with ⟨nm, h8⟩ | ⟨t, h8⟩ <;> rw [h8] <;> rcases cV_rf G x with h7 | ⟨b, h7⟩ <;> rw [h7] <;> exact ⟨rfl, rfl⟩
              have hlt : a < h.1.length := (List.getElem?_eq_some_iff.mp hc).1
              have hla : a < 1000000 := by
                have := hle_len (hg _ _ _ hv) hlen
                simp at this
                omega
              rw [cV_own hla]
              refine w_putf F hc hp he hk hd hP hS hrefs.1 hrefs.2 hfi (fun H1 locs1 q1 q3 => ?_)
              have hs1 : (h.1.set a (cx.1, cx.2.1, cx.2.2.set e2.2.2.1 x)).length = h.1.length := by simp
              have hs2 : slt (h.1.set a (cx.1, cx.2.1, cx.2.2.set e2.2.2.1 x)) = slt h.1 := slt_set hc rfl
              have hk2 := hn _ _ _ hv ls H1 locs1 hL (by show n0 ≤ (h.1.set a _).length; rw [hs1]; exact h0) (by show s0 ≤ slt (h.1.set a _); rw [hs2]; exact h1) ?_ q3
              · have hk3 : W p l e R s m args below meth c H1 locs1 ((h.1.set a (cx.1, cx.2.1, cx.2.2.set e2.2.2.1 x)).length - n0) (slt (h.1.set a (cx.1, cx.2.1, cx.2.2.set e2.2.2.1 x)) - s0) Q (F0 m (pc + 3) ls (q.map (cV G))) := hk2
                rw [hs1, hs2] at hk3
                exact hk3
              · have hc2 : (h.1.set a (cx.1, cx.2.1, cx.2.2.set e2.2.2.1 x))[a]? = some (cx.1, cx.2.1, cx.2.2.set e2.2.2.1 x) := List.getElem?_set_self hlt
                have e4 := cW_set (G := G) (h := h) (h2 := (h.1.set a (cx.1, cx.2.1, cx.2.2.set e2.2.2.1 x), h.2.1, h.2.2)) (a := a) hs1 (fun b hb => ⟨List.getElem?_set_ne (fun z => hb z.symm), rfl, rfl⟩) hc2
                rw [← e4]
                have e1 : cC G (h.2.1 a) (h.2.2 a) (cx.1, cx.2.1, cx.2.2.set e2.2.2.1 x) = .inr (e2.2.1, (cFs G e2.2.1 cx.2.1 (h.2.1 a) (h.2.2 a) cx.2.2).set e2.2.2.1 (cV G (.inr (.inr x)))) := by
                  rw [cC_obj (by show cx.1 < 50; rw [hk.1]; exact xcl_lt hw)]
                  show Sum.inr (cx.1, cFs G cx.1 cx.2.1 (h.2.1 a) (h.2.2 a) (cx.2.2.set e2.2.2.1 x)) = _
                  rw [hk.1, cFs_r (by rw [g2]; exact hz) hl]
                rw [show ((h.1.set a (cx.1, cx.2.1, cx.2.2.set e2.2.2.1 x), h.2.1, h.2.2) : XH).2.1 a = h.2.1 a from rfl, show ((h.1.set a (cx.1, cx.2.1, cx.2.2.set e2.2.2.1 x), h.2.1, h.2.2) : XH).2.2 a = h.2.2 a from rfl, e1]
                exact q1
            split at hr
            · rename_i h9
              dsimp only at hr
              split at hr
              · rename_i hl
                exact fin hr hl (Or.inl h9) (Or.inl (by omega))
              · cases hr
            · rename_i h9
              dsimp only at hr
              split at hr
              · rename_i hl
                exact fin hr hl.2 (Or.inr h9) (Or.inr ⟨hl.1, by omega, hpo.resolve_left (fun z => z h9)⟩)
              · cases hr
            · cases hr
          · cases hr
        · cases hr
      · cases hr
    · cases hr
  · cases hr
end Heap2
