/-! what a call leaves: the kinds of the cells that were there, and its answer's kind -/
def kle (h h2 : XH) : Prop := ∀ (a : Nat) (c : XC), h.1[a]? = some c → ∃ c2 : XC, h2.1[a]? = some c2 ∧ c2.1 = c.1
theorem kle.rf {h : XH} : kle h h := fun _ c h => ⟨c, h, rfl⟩
theorem kle.tr {a b c : XH} (h1 : kle a b) (h2 : kle b c) : kle a c := fun x y h => by
  obtain ⟨y2, e1, e2⟩ := h1 x y h
  obtain ⟨y3, e3, e4⟩ := h2 x y2 e1
  exact ⟨y3, e3, e4.trans e2⟩
theorem kle_set {h : XH} {a : Nat} {c d : XC} (hc : h.1[a]? = some c) (hd : d.1 = c.1) (iv : Nat → Nat → Int32) (lv : Nat → Nat → Int64) : kle h (h.1.set a d, iv, lv) := fun x y hx => by
  by_cases e : x = a
  · subst e
    refine ⟨d, ?_, ?_⟩
    · show (h.1.set x d)[x]? = some d
      rw [List.getElem?_set_self (getE_lt hc)]
    · rw [hc] at hx
      injection hx with hx
      rw [← hx]
      exact hd
  · refine ⟨y, ?_, rfl⟩
    show (h.1.set a d)[x]? = some y
    rw [List.getElem?_set_ne (fun z => e z.symm)]
    exact hx
theorem kle_iv {h : XH} (iv : Nat → Nat → Int32) (lv : Nat → Nat → Int64) : kle h (h.1, iv, lv) := fun _ c h => ⟨c, h, rfl⟩
theorem kle_app {h : XH} (c : XC) (iv : Nat → Nat → Int32) (lv : Nat → Nat → Int64) : kle h (h.1 ++ [c], iv, lv) := fun _ y hx => ⟨y, app_l hx _, rfl⟩
set_option maxHeartbeats 8000000 in
theorem step1_kin (X : XE) (cl : XCl) (hcl : ∀ k as h r, cl k as h = some r → kle h r.2) (ini : Bool) (rk : Nat) (i : Instr) (e : XP) (pc : Nat) (ls : XL) (st : XS) (h : XH) {o : XO} (ho : step1 X cl ini rk i e pc ls st h = some o) : kle h (hO o) := by
  unfold step1 at ho
  cases i
  case tableswitch d lo hi os =>
    simp only [stepK, un] at ho
    split at ho
    · obtain ⟨o2, h2⟩ := swk_inv _ _ _ _ _ ho
      cases h2
      exact kle.rf
    · cases ho
  all_goals simp only [stepK, sld, sst, unR, un, bin, binL, bin2, gfld, pfld, obj, objR, arr, arrR, ild, alen, xnew, xcopy, xclone, xcall, bV, bI, bL, bR, ifc] at ho
  all_goals (repeat' (first | (cases ho; done) | (cases ho; first | exact kle.rf | exact kle_iv _ _ | exact kle_app _ _ _ | exact hcl _ _ _ _ ‹_› ) | split at ho))
  all_goals (cases ho; first | (rename_i hq _ _ _; refine kle_set hq ?_ _ _; rfl) | (rename_i hq _ _ _ _; refine kle_set hq ?_ _ _; rfl) | (rename_i hq _ _; refine kle_set hq ?_ _ _; rfl))
theorem runF_kin (X : XE) (cl : XCl) (hcl : ∀ k as h r, cl k as h = some r → kle h r.2) (ini : Bool) (rk : Nat) (C : List XI) : ∀ (n pc : Nat) (ls : XL) (st : XS) (h : XH) (r : XR), runF X cl ini rk C n pc ls st h = some r → kle h r.2 := by
  intro n
  induction n with
  | zero => intro pc ls st h r hr; simp [runF] at hr
  | succ n ih =>
    intro pc ls st h r hr
    rw [runF] at hr
    split at hr
    · cases hr
    · simp only [stepK_nat] at hr
      unfold goO at hr
      split at hr
      · rename_i ho; exact (step1_kin X cl hcl _ _ _ _ _ _ _ _ ho).tr (ih _ _ _ _ _ hr)
      · rename_i ho; exact (step1_kin X cl hcl _ _ _ _ _ _ _ _ ho).tr (ih _ _ _ _ _ hr)
      · rename_i ho; cases hr; exact step1_kin X cl hcl _ _ _ _ _ _ _ _ ho
      · cases hr
theorem call_kin (X : XE) (T : Nat → Option XM) : ∀ (d k : Nat) (as : XS) (h : XH) (r : XR), call X T d k as h = some r → kle h r.2 := by
  intro d
  induction d with
  | zero => intro k as h r hr; simp [call] at hr
  | succ d ih =>
    intro k as h r hr
    simp only [call] at hr
    split at hr
    · cases hr
    · split at hr
      · obtain ⟨n, hn⟩ := run_ex hr
        exact runF_kin X _ ih _ _ _ _ _ _ _ _ _ hn
      · cases hr
/-- an answer's kind: 1 an int, 2 a long -/
def shp (rk : Nat) (r : XR) : Prop := (rk = 1 → ∃ x, r.1 = some (.inl x)) ∧ (rk = 2 → ∃ x, r.1 = some (.inr (.inl x)))
def shO (rk : Nat) (o : XO) : Prop := match o with
  | Sum.inl _ => True
  | Sum.inr (Sum.inl _) => True
  | Sum.inr (Sum.inr r) => shp rk r
theorem shpI {rk : Nat} (hn : rk ≠ 2) (x : Int32) (h : XH) : shp rk (some (.inl x), h) := ⟨fun _ => ⟨x, rfl⟩, fun e => absurd e hn⟩
theorem shpL {rk : Nat} (hn : rk = 2) (x : Int64) (h : XH) : shp rk (some (.inr (.inl x)), h) := ⟨fun e => by omega, fun _ => ⟨x, rfl⟩⟩
theorem shpN {rk : Nat} {r : XR} (hn : rk = 3 ∨ rk = 0) : shp rk r := ⟨fun e => by omega, fun e => by omega⟩
set_option maxHeartbeats 8000000 in
theorem step1_ret (X : XE) (cl : XCl) (ini : Bool) (rk : Nat) (i : Instr) (e : XP) (pc : Nat) (ls : XL) (st : XS) (h : XH) {o : XO} (ho : step1 X cl ini rk i e pc ls st h = some o) : shO rk o := by
  unfold step1 at ho
  cases i
  case tableswitch d lo hi os =>
    simp only [stepK, un] at ho
    split at ho
    · obtain ⟨o2, h2⟩ := swk_inv _ _ _ _ _ ho
      cases h2
      exact True.intro
    · cases ho
  all_goals simp only [stepK, sld, sst, unR, un, bin, binL, bin2, gfld, pfld, obj, objR, arr, arrR, ild, alen, xnew, xcopy, xclone, xcall, bV, bI, bL, bR, ifc] at ho
  all_goals (repeat' (first | (cases ho; done) | (cases ho; first | exact True.intro | exact shpI (by decide) _ _ | exact shpL ‹_› _ _ | exact shpN (Or.inl ‹_›) | exact shpN (Or.inr ‹_›)) | split at ho))
theorem runF_ret (X : XE) (cl : XCl) (ini : Bool) (rk : Nat) (C : List XI) : ∀ (n pc : Nat) (ls : XL) (st : XS) (h : XH) (r : XR), runF X cl ini rk C n pc ls st h = some r → shp rk r := by
  intro n
  induction n with
  | zero => intro pc ls st h r hr; simp [runF] at hr
  | succ n ih =>
    intro pc ls st h r hr
    rw [runF] at hr
    split at hr
    · cases hr
    · simp only [stepK_nat] at hr
      unfold goO at hr
      split at hr
      · exact ih _ _ _ _ _ hr
      · exact ih _ _ _ _ _ hr
      · rename_i ho; cases hr; exact step1_ret X cl _ _ _ _ _ _ _ _ ho
      · cases hr
theorem call_ret {X : XE} {T : Nat → Option XM} {d k : Nat} {as : XS} {h : XH} {r : XR} {m : XM} (hm : T k = some m) (hr : call X T (d + 1) k as h = some r) : shp m.2.2.1 r := by
  simp only [call, hm] at hr
  split at hr
  · obtain ⟨n, hn⟩ := run_ex hr
    exact runF_ret X _ _ _ _ _ _ _ _ _ _ hn
  · cases hr
