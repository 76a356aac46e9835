theorem swk_nat {ρ : Type} (x : Int32) (f : Int → Option XO) (g : Option XO → Option ρ) (g0 : g none = none) : ∀ (os : List Int) (lo dflt : Int), swk x lo os dflt (fun o => g (f o)) = g (swk x lo os dflt f) := by
  intro os
  induction os with
  | nil => intro lo dflt; rfl
  | cons o r ih =>
    intro lo dflt
    simp only [swk]
    split
    · rfl
    · exact ih _ _
set_option maxHeartbeats 4000000 in
theorem stepK_nat {ρ : Type} (X : XE) (cl : XCl) (ini : Bool) (rk : Nat) (i : Instr) (e : XP) (pc : Nat) (ls : XL) (st : XS) (h : XH) (kn : XL → XS → XH → Option ρ) (kj : Nat → XL → XS → XH → Option ρ) (kr : XR → Option ρ) :
    stepK X cl ini rk i e pc ls st h kn kj kr = goO (step1 X cl ini rk i e pc ls st h) kn kj kr := by
  unfold step1
  cases i
  case tableswitch d lo hi os =>
    simp only [stepK, un]
    split
    · exact swk_nat _ (fun o => some (Sum.inr (Sum.inl (tgt pc o, ls, _, h)))) (fun o => goO o kn kj kr) rfl _ _ _
    · rfl
  all_goals simp only [stepK, sld, sst, unR, un, bin, binL, bin2, gfld, pfld, obj, objR, arr, arrR, ild, alen, xnew, xcopy, xclone, xcall, bV, bI, bL, bR, ifc]
  all_goals (repeat' (first | rfl | split))
theorem goO_mono {ρ : Type} {o : Option XO} {kn kn' : XL → XS → XH → Option ρ} {kj kj' : Nat → XL → XS → XH → Option ρ} {kr : XR → Option ρ} {r : ρ} (h1 : ∀ l s h, kn l s h = some r → kn' l s h = some r) (h2 : ∀ p l s h, kj p l s h = some r → kj' p l s h = some r) (h : goO o kn kj kr = some r) : goO o kn' kj' kr = some r := by
  unfold goO at h ⊢
  split at h
  · exact h1 _ _ _ h
  · exact h2 _ _ _ _ h
  · exact h
  · exact h
theorem runF_up (X : XE) (cl : XCl) (ini : Bool) (rk : Nat) (C : List XI) : ∀ (n pc : Nat) (ls : XL) (st : XS) (h : XH) (r : XR), runF X cl ini rk C n pc ls st h = some r → runF X cl ini rk C (n + 1) pc ls st h = some r := by
  intro n
  induction n with
  | zero => intro pc ls st h r hr; simp [runF] at hr
  | succ n ih =>
    intro pc ls st h r hr
    rw [runF] at hr ⊢
    split at hr
    · exact hr
    · rename_i q t hq
      simp only [stepK_nat] at hr ⊢
      exact goO_mono (fun l s h q => ih _ _ _ _ _ q) (fun p l s h q => ih _ _ _ _ _ q) hr
theorem runF_le (X : XE) (cl : XCl) (ini : Bool) (rk : Nat) (C : List XI) {n m : Nat} (hnm : n ≤ m) {pc : Nat} {ls : XL} {st : XS} {h : XH} {r : XR} (hr : runF X cl ini rk C n pc ls st h = some r) : runF X cl ini rk C m pc ls st h = some r := by
  induction hnm with
  | refl => exact hr
  | step _ ih => exact runF_up X cl ini rk C _ _ _ _ _ _ ih
theorem run_of {X : XE} {cl : XCl} {ini : Bool} {rk : Nat} {C : List XI} {n pc : Nat} {ls : XL} {st : XS} {h : XH} {r : XR} (hr : runF X cl ini rk C n pc ls st h = some r) : run X cl ini rk C pc ls st h = some r := by
  have hx : ∃ n, (runF X cl ini rk C n pc ls st h).isSome = true := ⟨n, by rw [hr]; rfl⟩
  unfold run lim
  rw [dif_pos hx]
  obtain ⟨r2, h2⟩ := Option.isSome_iff_exists.mp (Classical.choose_spec hx)
  have a := runF_le X cl ini rk C (Nat.le_max_left n (Classical.choose hx)) hr
  have b := runF_le X cl ini rk C (Nat.le_max_right n (Classical.choose hx)) h2
  show runF X cl ini rk C (Classical.choose hx) pc ls st h = some r
  rw [h2]
  exact b.symm.trans a
theorem run_ex {X : XE} {cl : XCl} {ini : Bool} {rk : Nat} {C : List XI} {pc : Nat} {ls : XL} {st : XS} {h : XH} {r : XR} (hr : run X cl ini rk C pc ls st h = some r) : ∃ n, runF X cl ini rk C n pc ls st h = some r := by
  unfold run lim at hr
  by_cases hx : ∃ n, (runF X cl ini rk C n pc ls st h).isSome = true
  · rw [dif_pos hx] at hr
    exact ⟨_, hr⟩
  · rw [dif_neg hx] at hr
    cases hr
theorem opt_ext {α : Type} {a b : Option α} (h1 : ∀ r, a = some r → b = some r) (h2 : ∀ r, b = some r → a = some r) : a = b := by
  cases a with
  | some x => exact (h1 x rfl).symm
  | none => cases b with
    | some y => exact h2 y rfl
    | none => rfl
def runS (X : XE) (cl : XCl) (ini : Bool) (rk : Nat) (C : List XI) (kk : Nat → XL → XS → XH → Option XR) (pc : Nat) (ls : XL) (st : XS) (h : XH) : Option XR := match lkp C pc with
  | [] => none
  | q :: _ => stepK X cl ini rk q.1 q.2.2 pc ls st h (fun l s h => kk (pc + q.2.1) l s h) kk some
theorem run_eq (X : XE) (cl : XCl) (ini : Bool) (rk : Nat) (C : List XI) (pc : Nat) (ls : XL) (st : XS) (h : XH) : run X cl ini rk C pc ls st h = runS X cl ini rk C (run X cl ini rk C) pc ls st h := by
  apply opt_ext
  · intro r hr
    obtain ⟨n, hn⟩ := run_ex hr
    cases n with
    | zero => simp [runF] at hn
    | succ n =>
      rw [runF] at hn
      unfold runS
      cases hq : lkp C pc with
      | nil => rw [hq] at hn; exact hn
      | cons q t =>
        rw [hq] at hn
        simp only [stepK_nat] at hn ⊢
        exact goO_mono (fun l s h q => run_of q) (fun p l s h q => run_of q) hn
  · intro r hr
    unfold runS at hr
    split at hr
    · cases hr
    · rename_i q t hq
      simp only [stepK_nat] at hr
      have key : ∃ n, goO (step1 X cl ini rk q.1 q.2.2 pc ls st h) (fun l s h => runF X cl ini rk C n (pc + q.2.1) l s h) (fun p l s h => runF X cl ini rk C n p l s h) some = some r := by
        unfold goO at hr ⊢
        split at hr
        · exact run_ex hr
        · exact run_ex hr
        · exact ⟨0, hr⟩
        · cases hr
      obtain ⟨n, hn⟩ := key
      refine run_of (n := n + 1) ?_
      rw [runF, hq]
      simp only [stepK_nat]
      exact hn
theorem lkp_next {C : List XI} (hC : ∀ q ∈ C, 1 ≤ q.2.1) : ∀ {pc : Nat} {q : XI} {r : List XI}, lkp C pc = q :: r → lkp C (pc + q.2.1) = r := by
  induction C with
  | nil => intro pc q r h; simp [lkp] at h
  | cons c C ih =>
    intro pc q r h
    have hc := hC c List.mem_cons_self
    have ih := @ih (fun q hq => hC q (List.mem_cons_of_mem _ hq))
    simp only [lkp] at h ⊢
    by_cases h0 : pc = 0
    · rw [if_pos h0] at h
      injection h with h1 h2
      subst h1; subst h2; subst h0
      rw [if_neg (by omega), if_neg (by omega)]
      have e : 0 + c.2.1 - c.2.1 = 0 := by omega
      rw [e]
      cases C <;> simp [lkp]
    · rw [if_neg h0] at h
      by_cases h1 : pc < c.2.1
      · rw [if_pos h1] at h; cases h
      · rw [if_neg h1] at h
        rw [if_neg (by omega), if_neg (by omega)]
        have := ih h
        rw [show pc + q.2.1 - c.2.1 = pc - c.2.1 + q.2.1 by omega]
        exact this
theorem blk_run (X : XE) (cl : XCl) (ini : Bool) (rk : Nat) {C : List XI} (hC : ∀ q ∈ C, 1 ≤ q.2.1) (cut : List Nat) : ∀ (n pc : Nat) (ls : XL) (st : XS) (h : XH), blk X cl ini rk C cut (run X cl ini rk C) n pc (lkp C pc) ls st h = run X cl ini rk C pc ls st h := by
  intro n
  induction n with
  | zero => intro pc ls st h; rfl
  | succ n ih =>
    intro pc ls st h
    rw [run_eq]
    unfold runS
    cases hq : lkp C pc with
    | nil => rfl
    | cons q r =>
      simp only [blk]
      have e1 : (fun l s h => if cut.contains (pc + q.2.1) = true then run X cl ini rk C (pc + q.2.1) l s h else blk X cl ini rk C cut (run X cl ini rk C) n (pc + q.2.1) r l s h) = (fun l s h => run X cl ini rk C (pc + q.2.1) l s h) := by
        funext l s h
        split
        · rfl
        · rw [← lkp_next hC hq]; exact ih _ _ _ _
      have e2 : (fun p l s h => if cut.contains p = true then run X cl ini rk C p l s h else blk X cl ini rk C cut (run X cl ini rk C) n p (lkp C p) l s h) = run X cl ini rk C := by
        funext p l s h
        split
        · rfl
        · exact ih _ _ _ _
      simp only [e1, e2]
def slt (S : List XC) : Nat := (S.map (fun c => c.2.1)).sum
def hle (h h2 : XH) : Prop := h.1.length ≤ h2.1.length ∧ slt h.1 ≤ slt h2.1
theorem hle.rf {h : XH} : hle h h := ⟨Nat.le_refl _, Nat.le_refl _⟩
theorem hle.tr {a b c : XH} (h1 : hle a b) (h2 : hle b c) : hle a c := ⟨Nat.le_trans h1.1 h2.1, Nat.le_trans h1.2 h2.2⟩
theorem slt_set {S : List XC} : ∀ {a : Nat} {c d : XC}, S[a]? = some c → d.2.1 = c.2.1 → slt (S.set a d) = slt S := by
  induction S with
  | nil => intro a c d h; simp at h
  | cons x S ih =>
    intro a c d h e
    cases a with
    | zero =>
      simp at h
      subst h
      simp [slt, e]
    | succ a =>
      simp at h
      have := ih h e
      simp [slt] at this ⊢
      exact this
theorem slt_app (S : List XC) (c : XC) : slt (S ++ [c]) = slt S + c.2.1 := by simp [slt]
def hO (o : XO) : XH := match o with
  | Sum.inl (_, _, h) => h
  | Sum.inr (Sum.inl (_, _, _, h)) => h
  | Sum.inr (Sum.inr r) => r.2
theorem slt_elim {S : List XC} {a : Nat} {c : XC} (h : S[a]? = some c) (k : Nat) (rs : List (Option Nat)) : slt (S.set a (k, S[a]?.elim 0 (fun c => c.2.1), rs)) = slt S := slt_set h (by rw [h]; rfl)
theorem swk_inv {ρ : Type} (x : Int32) (f : Int → Option ρ) {r : ρ} : ∀ (os : List Int) (lo dflt : Int), swk x lo os dflt f = some r → ∃ o, f o = some r := by
  intro os
  induction os with
  | nil => intro lo dflt h; exact ⟨_, h⟩
  | cons o q ih =>
    intro lo dflt h
    simp only [swk] at h
    split at h
    · exact ⟨_, h⟩
    · exact ih _ _ h
theorem hle_set {h : XH} {a : Nat} {c d : XC} (hc : h.1[a]? = some c) (hd : d.2.1 = c.2.1) (iv : Nat → Nat → Int32) (lv : Nat → Nat → Int64) : hle h (h.1.set a d, iv, lv) := ⟨by simp, by show slt h.1 ≤ slt (h.1.set a d); rw [slt_set hc hd]; exact Nat.le_refl _⟩
theorem hle_iv {h : XH} (iv : Nat → Nat → Int32) (lv : Nat → Nat → Int64) : hle h (h.1, iv, lv) := ⟨Nat.le_refl _, Nat.le_refl _⟩
theorem hle_app {h : XH} (c : XC) (iv : Nat → Nat → Int32) (lv : Nat → Nat → Int64) : hle h (h.1 ++ [c], iv, lv) := ⟨by simp, by show slt h.1 ≤ slt (h.1 ++ [c]); rw [slt_app]; omega⟩
theorem hle_setE {h : XH} {a : Nat} {c : XC} (hc : h.1[a]? = some c) (k : Nat) (rs : List (Option Nat)) (iv : Nat → Nat → Int32) (lv : Nat → Nat → Int64) : hle h (h.1.set a (k, h.1[a]?.elim 0 (fun c => c.2.1), rs), iv, lv) := hle_set hc (by rw [hc]; rfl) iv lv
set_option maxHeartbeats 8000000 in
theorem step1_grow (X : XE) (cl : XCl) (hcl : ∀ k as h r, cl k as h = some r → hle h r.2) (ini : Bool) (rk : Nat) (i : Instr) (e : XP) (pc : Nat) (ls : XL) (st : XS) (h : XH) {o : XO} (ho : step1 X cl ini rk i e pc ls st h = some o) : hle h (hO o) := by
  unfold step1 at ho
  cases i
  case tableswitch d lo hi os =>
    simp only [stepK, un] at ho
    split at ho
    · obtain ⟨o2, h2⟩ := swk_inv _ _ _ _ _ ho
      cases h2
      exact hle.rf
    · cases ho
  all_goals simp only [stepK, sld, sst, unR, un, bin, binL, bin2, gfld, pfld, obj, objR, arr, arrR, ild, alen, xnew, xcopy, xclone, xcall, bV, bI, bL, bR, ifc] at ho
  all_goals (repeat' (first | (cases ho; done) | (cases ho; first | exact hle.rf | exact hle_iv _ _ | exact hle_app _ _ _ | exact hcl _ _ _ _ ‹_› ) | split at ho))
  all_goals (cases ho; first | (rename_i hq _ _ _; refine hle_set hq ?_ _ _; rfl) | (rename_i hq _ _ _ _; refine hle_set hq ?_ _ _; rfl) | (rename_i hq _ _; refine hle_set hq ?_ _ _; rfl))
theorem runF_grow (X : XE) (cl : XCl) (hcl : ∀ k as h r, cl k as h = some r → hle h r.2) (ini : Bool) (rk : Nat) (C : List XI) : ∀ (n pc : Nat) (ls : XL) (st : XS) (h : XH) (r : XR), runF X cl ini rk C n pc ls st h = some r → hle h r.2 := by
  intro n
  induction n with
  | zero => intro pc ls st h r hr; simp [runF] at hr
  | succ n ih =>
    intro pc ls st h r hr
    rw [runF] at hr
    split at hr
    · cases hr
    · simp only [stepK_nat] at hr
      unfold goO at hr
      split at hr
      · rename_i ho; exact (step1_grow X cl hcl _ _ _ _ _ _ _ _ ho).tr (ih _ _ _ _ _ hr)
      · rename_i ho; exact (step1_grow X cl hcl _ _ _ _ _ _ _ _ ho).tr (ih _ _ _ _ _ hr)
      · rename_i ho; cases hr; exact step1_grow X cl hcl _ _ _ _ _ _ _ _ ho
      · cases hr
theorem call_grow (X : XE) (T : Nat → Option XM) : ∀ (d k : Nat) (as : XS) (h : XH) (r : XR), call X T d k as h = some r → hle h r.2 := by
  intro d
  induction d with
  | zero => intro k as h r hr; simp [call] at hr
  | succ d ih =>
    intro k as h r hr
    simp only [call] at hr
    split at hr
    · cases hr
    · split at hr
      · obtain ⟨n, hn⟩ := run_ex hr
        exact runF_grow X _ ih _ _ _ _ _ _ _ _ _ hn
      · cases hr
