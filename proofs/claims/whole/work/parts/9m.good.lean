/-! both languages: every thing read is sound, and no longer than its tokens -/
def Gd {α : Type} (nt : Nat) (ok : Nat → Nat → α → Prop) (c0 i0 : Nat) (r : Rd α) : Prop := match r with
  | .inl e => e ≤ nt
  | .inr x => ∃ L n, ok L n x.1 ∧ x.2.1 = c0 + L ∧ x.2.1 ≤ 50 ∧ i0 + n = x.2.2 ∧ i0 < x.2.2 ∧ x.2.2 ≤ nt
def GF {α : Type} (nt : Nat) (ok : Nat → Nat → α → Prop) (f : Nat → Nat → Rd α) : Prop := ∀ c i, c ≤ 50 → i ≤ nt → Gd nt ok c i (f c i)
theorem Gd_thn {α β : Type} {nt : Nat} {ok : Nat → Nat → α → Prop} {ok' : Nat → Nat → β → Prop} {c0 i0 c1 i1 : Nat} {r : Rd α} {f : α → Nat → Nat → Rd β} (h : Gd nt ok c1 i1 r) (hf : ∀ x L n, ok L n x → c1 + L ≤ 50 → i1 < i1 + n → i1 + n ≤ nt → Gd nt ok' c0 i0 (f x (c1 + L) (i1 + n))) : Gd nt ok' c0 i0 (thn r f) := by
  cases r with
  | inl e => exact h
  | inr x =>
    obtain ⟨L, n, h1, h2, h3, h4, h5, h6⟩ := h
    obtain ⟨x, c, i⟩ := x
    simp only at h2 h4
    subst h2; subst h4
    exact hf x L n h1 h3 h5 h6
theorem GF_row {α : Type} {nt : Nat} {ok : Nat → Nat → α → Prop} {sg : Nat → Option Nat} {mk : Nat → α → α → α} {tk : Nat → Nat} {it : Nat → Nat → Rd α} (he : tk nt = 9999) (hs : sg 9999 = none) (hm : ∀ o t x y L1 L2 n1 n2, sg t = some o → ok L1 n1 x → ok L2 n2 y → ok (L1 + L2) (n1 + n2 + 1) (mk o x y)) (hi : GF nt ok it) : GF nt ok (rowF sg mk tk it) := by
  have loop : ∀ (c0 i0 k : Nat) (x : α) (L n : Nat), ok L n x → c0 + L ≤ 50 → i0 < i0 + n → i0 + n ≤ nt → Gd nt ok c0 i0 (rowL sg mk tk it k x (c0 + L) (i0 + n)) := by
    intro c0 i0 k
    induction k with
    | zero => intro x L n h1 h2 h3 h4; exact ⟨L, n, h1, rfl, h2, rfl, h3, h4⟩
    | succ k ih =>
      intro x L n h1 h2 h3 h4
      unfold rowL
      cases hs2 : sg (tk (i0 + n)) with
      | none => exact ⟨L, n, h1, rfl, h2, rfl, h3, h4⟩
      | some o =>
        have hlt : i0 + n ≠ nt := fun e => by rw [e, he, hs] at hs2; cases hs2
        refine Gd_thn (hi (c0 + L) (i0 + n + 1) h2 (by omega)) (fun y L2 n2 q1 q2 q3 q4 => ?_)
        have := ih (mk o x y) (L + L2) (n + n2 + 1) (hm o _ x y L L2 n n2 hs2 h1 q1) (by omega) (by omega) (by omega)
        rw [show c0 + L + L2 = c0 + (L + L2) by omega, show i0 + n + 1 + n2 = i0 + (n + n2 + 1) by omega]
        exact this
  intro c i hc hi2
  exact Gd_thn (hi c i hc hi2) (fun x L n q1 q2 q3 q4 => loop c i 400 x L n q1 q2 q3 q4)
def oE (q : Bool) (W : Wv) (L n : Nat) (e : Ex) : Prop := okE q W L e ∧ e.1.length ≤ n ∧ e.2.1.length ≤ n
def oT (q : Bool) (W : Wv) (L n : Nat) (t : Te) : Prop := okTe q W L t ∧ ∀ b, (t.1 b).length ≤ n ∧ (t.2.1 b).length ≤ n
theorem numT_ok {t v : Nat} (h : numT t = some v) : v ≤ 1000 ∧ t = v + 256 := by
  unfold numT at h
  split at h
  · injection h with h; omega
  · cases h
theorem oE_num (q : Bool) (W : Wv) {v n : Nat} (hv : v ≤ 1000) (hn : 1 ≤ n) : oE q W 1 n (eNum v) := ⟨okE_num q W hv, hn, hn⟩
theorem oE_wrd {q : Bool} {W : Wv} (hW : wvOK q W) {k n : Nat} (hk : k < nwF q) (hn : 1 ≤ n) : oE q W 1 n (eWrd q k) := ⟨okE_wrd hW hk, hn, hn⟩
theorem aloT_ok {t k : Nat} (h : aloT t = some k) : k < 3 ∧ t ≠ 9999 := by
  unfold aloT at h
  repeat' split at h
  all_goals first
    | (injection h with h; omega)
    | cases h
theorem manT_ok {t : Nat} {m : Nat × Nat} (h : manT t = some m) : m.1 + m.2 ≤ 23 ∧ 3 ≤ m.1 ∧ t ≠ 9999 := by
  unfold manT at h
  repeat' split at h
  all_goals first
    | (injection h with h; rw [← h]; simp only; omega)
    | cases h
theorem GF_leaf {q : Bool} {W : Wv} {nt : Nat} {tk : Nat → Nat} (he : tk nt = 9999) (hW : wvOK q W) : GF nt (oE q W) (pLeaf q tk) := by
  intro c i hc hi
  unfold pLeaf
  by_cases c5 : 50 ≤ c
  · rw [if_pos c5]; exact hi
  rw [if_neg c5]
  have lt : tk i ≠ 9999 → i < nt := fun h => by
    rcases Nat.lt_or_ge i nt with h2 | h2
    · exact h2
    · exact absurd he (by rw [show nt = i by omega]; exact h)
  cases hn : numT (tk i) with
  | some v =>
    obtain ⟨v1, v2⟩ := numT_ok hn
    have := lt (by omega)
    exact ⟨1, 1, oE_num q W v1 (Nat.le_refl _), rfl, by show c + 1 ≤ 50; omega, rfl, by show i < i + 1; omega, by show i + 1 ≤ nt; omega⟩
  | none =>
    simp only
    cases q with
    | true =>
      rw [if_pos rfl]
      cases ha : aloT (tk i) with
      | some k =>
        obtain ⟨k1, k2⟩ := aloT_ok ha
        have := lt k2
        exact ⟨1, 1, oE_wrd hW (show k < 23 by omega) (Nat.le_refl _), rfl, by show c + 1 ≤ 50; omega, rfl, by show i < i + 1; omega, by show i + 1 ≤ nt; omega⟩
      | none =>
        simp only
        cases hm : manT (tk i) with
        | none => exact hi
        | some m =>
          obtain ⟨m1, m2, m3⟩ := manT_ok hm
          have := lt m3
          simp only
          cases hn2 : numT (tk (i + 1)) with
          | none => show i + 1 ≤ nt; omega
          | some v =>
            simp only
            obtain ⟨v1, v2⟩ := numT_ok hn2
            have l2 : i + 1 < nt := by
              rcases Nat.lt_or_ge (i + 1) nt with h2 | h2
              · exact h2
              · have : i + 1 = nt := by omega
                rw [this, he] at v2; omega
            by_cases hv : v < m.2
            · rw [if_pos hv]
              exact ⟨1, 2, oE_wrd hW (show m.1 + v < 23 by omega) (by omega), rfl, by show c + 1 ≤ 50; omega, rfl, by show i < i + 2; omega, by show i + 2 ≤ nt; omega⟩
            · rw [if_neg hv]; show i + 1 ≤ nt; omega
    | false =>
      rw [if_neg (by decide)]
      by_cases hw : 3000 ≤ tk i ∧ tk i ≤ 3009
      · rw [if_pos hw]
        have := lt (by omega)
        exact ⟨1, 1, oE_wrd hW (show tk i - 3000 < 10 by omega) (Nat.le_refl _), rfl, by show c + 1 ≤ 50; omega, rfl, by show i < i + 1; omega, by show i + 1 ≤ nt; omega⟩
      · rw [if_neg hw]; exact hi
theorem GF_shut {α : Type} {nt s : Nat} {ok : Nat → Nat → α → Prop} {tk : Nat → Nat} {f : α → α} {r : Rd α} {c i m : Nat} (he : tk nt = 9999) (hs : s ≠ 9999) (hf : ∀ L n x, ok L n x → ok L (n + 1 + 1 + m) (f x)) (h : Gd nt ok c (i + m + 1) r) : Gd nt ok c i (shut tk s f r) := by
  unfold shut
  refine Gd_thn h (fun x L n q1 q2 q3 q4 => ?_)
  by_cases e : tk (i + m + 1 + n) = s
  · rw [if_pos e]
    have : i + m + 1 + n ≠ nt := fun z => by rw [z, he] at e; exact hs e.symm
    exact ⟨L, n + 1 + 1 + m, hf L n x q1, rfl, q2, by show i + (n + 1 + 1 + m) = i + m + 1 + n + 1; omega, by show i < i + m + 1 + n + 1; omega, by show i + m + 1 + n + 1 ≤ nt; omega⟩
  · rw [if_neg e]; exact q4
theorem oE_mo {q : Bool} {W : Wv} {L n m : Nat} {x : Ex} (h : oE q W L n x) (hm : n ≤ m) : oE q W L m x := ⟨h.1, by have := h.2.1; omega, by have := h.2.2; omega⟩
theorem oT_mo {q : Bool} {W : Wv} {L n m : Nat} {x : Te} (h : oT q W L n x) (hm : n ≤ m) : oT q W L m x := ⟨h.1, fun b => ⟨by have := (h.2 b).1; omega, by have := (h.2 b).2; omega⟩⟩
theorem oE_bin {q : Bool} {W : Wv} {L1 L2 n1 n2 o : Nat} {a b : Ex} (ha : oE q W L1 n1 a) (hb : oE q W L2 n2 b) (h3 : 3 ≤ o) (h10 : o ≤ 10) : oE q W (L1 + L2) (n1 + n2 + 1) (eBin o a b) := by
  refine ⟨okE_bin ha.1 hb.1 h3 h10, ?_, ?_⟩
  · show (a.1 ++ (b.1 ++ [(o, 0)])).length ≤ _
    rw [List.length_append, List.length_append, List.length_singleton]; have := ha.2.1; have := hb.2.1; omega
  · show (a.2.1 ++ (b.2.1 ++ [(o + 17, 0)])).length ≤ _
    rw [List.length_append, List.length_append, List.length_singleton]; have := ha.2.2; have := hb.2.2; omega
theorem GF_part {q : Bool} {W : Wv} {nt : Nat} {tk : Nat → Nat} (he : tk nt = 9999) (hW : wvOK q W) {rec : Option (Nat → Nat → Rd Ex)} (hr : ∀ f, rec = some f → GF nt (oE q W) f) : GF nt (oE q W) (partF q tk rec) := by
  intro c i hc hi
  unfold partF
  by_cases e : tk i = 91
  · rw [if_pos e]
    cases rec with
    | none => exact hi
    | some f =>
      have : i ≠ nt := fun z => by rw [z, he] at e; omega
      exact GF_shut (m := 0) he (by omega) (fun L n x h => oE_mo h (by omega)) (hr f rfl c (i + 1) hc (by omega))
  · rw [if_neg e]; exact GF_leaf he hW c i hc hi
theorem mulT_ok {t o : Nat} (h : mulT t = some o) : 5 ≤ o ∧ o ≤ 7 := by
  unfold mulT at h
  repeat' split at h
  all_goals first
    | (injection h with h; omega)
    | cases h
theorem addT_ok {t o : Nat} (h : addT t = some o) : 3 ≤ o ∧ o ≤ 4 := by
  unfold addT at h
  repeat' split at h
  all_goals first
    | (injection h with h; omega)
    | cases h
theorem cmpT_ok {t o : Nat} (h : cmpT t = some o) : 8 ≤ o ∧ o ≤ 10 ∧ t ≠ 9999 := by
  unfold cmpT at h
  repeat' split at h
  all_goals first
    | (injection h with h; omega)
    | cases h
theorem GF_sumF {q : Bool} {W : Wv} {nt : Nat} {tk : Nat → Nat} (he : tk nt = 9999) (hW : wvOK q W) {rec : Option (Nat → Nat → Rd Ex)} (hr : ∀ f, rec = some f → GF nt (oE q W) f) : GF nt (oE q W) (sumF q tk rec) :=
  GF_row he (by decide) (fun o t x y L1 L2 n1 n2 ho hx hy => oE_bin hx hy (by have := addT_ok ho; omega) (by have := addT_ok ho; omega)) (GF_row he (by decide) (fun o t x y L1 L2 n1 n2 ho hx hy => oE_bin hx hy (by have := mulT_ok ho; omega) (by have := mulT_ok ho; omega)) (GF_part he hW hr))
theorem GF_sum {q : Bool} {W : Wv} {nt : Nat} {tk : Nat → Nat} (he : tk nt = 9999) (hW : wvOK q W) : ∀ b, GF nt (oE q W) (pSum q tk b) := by
  intro b
  induction b with
  | zero => exact GF_sumF he hW (fun f h => by cases h)
  | succ b ih => exact GF_sumF he hW (fun f h => by injection h with h; rw [← h]; exact ih)
theorem nots_le {tk : Nat → Nat} {nt : Nat} (he : tk nt = 9999) : ∀ k i, i ≤ nt → i + nots tk k i ≤ nt := by
  intro k
  induction k with
  | zero => intro i hi; exact hi
  | succ k ih =>
    intro i hi
    unfold nots
    by_cases e : tk i = 2014
    · rw [if_pos e]
      have : i ≠ nt := fun z => by rw [z, he] at e; omega
      have := ih (i + 1) (by omega)
      omega
    · rw [if_neg e]; exact hi
theorem oT_nts {q : Bool} {W : Wv} {L n : Nat} {t : Te} (m : Nat) (h : oT q W L n t) : oT q W L (n + m) (tNts m t) := by
  refine ⟨okT_nts m h.1, fun b => ⟨?_, ?_⟩⟩
  · show (t.1 b ++ (if m % 2 = 1 then [(11, 0)] else [])).length ≤ _
    rw [List.length_append]
    have := (h.2 b).1
    split
    · rw [List.length_singleton]; omega
    · rw [List.length_nil]; omega
  · show (t.2.1 b ++ List.replicate m (28, 0)).length ≤ _
    rw [List.length_append, List.length_replicate]
    have := (h.2 b).2
    omega
theorem oT_cmp {q : Bool} {W : Wv} {L1 L2 n1 n2 o : Nat} {a b : Ex} (ha : oE q W L1 n1 a) (hb : oE q W L2 n2 b) (h3 : 8 ≤ o) (h10 : o ≤ 10) : oT q W (L1 + L2) (n1 + n2 + 1) (tCmp o a b) := ⟨okT_cmp ha.1 hb.1 h3 h10, fun _ => (oE_bin ha hb (o := o) (by omega) h10).2⟩
theorem oT_jmp {q : Bool} {W : Wv} {L1 L2 n1 n2 : Nat} {a b : Te} (con : Bool) (ha : oT q W L1 n1 a) (hb : oT q W L2 n2 b) : oT q W (L1 + L2) (n1 + n2 + 1) (if con = true then tCon a b else tDis a b) := by
  refine ⟨okT_jmp con ha.1 hb.1, fun z => ?_⟩
  have x1 := ha.2 z
  have x2 := (hb.2 (z + (a.1 z).length + 1)).1
  have x3 := (hb.2 (z + (a.2.1 z).length + 1)).2
  cases con
  · rw [if_neg (by decide)]
    constructor
    · show (jmp 12 a.1 b.1 z).length ≤ _; rw [jmp_len]; omega
    · show (jmp 30 a.2.1 b.2.1 z).length ≤ _; rw [jmp_len]; omega
  · rw [if_pos rfl]
    constructor
    · show (jmp 13 a.1 b.1 z).length ≤ _; rw [jmp_len]; omega
    · show (jmp 29 a.2.1 b.2.1 z).length ≤ _; rw [jmp_len]; omega
theorem Gd_lo {α : Type} {nt : Nat} {ok : Nat → Nat → α → Prop} (hm : ∀ L n m x, ok L n x → n ≤ m → ok L m x) {c i m : Nat} {r : Rd α} (h : Gd nt ok c (i + m) r) : Gd nt ok c i r := by
  cases r with
  | inl e => exact h
  | inr x =>
    obtain ⟨L, n, h1, h2, h3, h4, h5, h6⟩ := h
    exact ⟨L, n + m, hm _ _ _ _ h1 (by omega), h2, h3, by omega, by omega, h6⟩
theorem GF_plain {q : Bool} {W : Wv} {nt : Nat} {tk : Nat → Nat} (he : tk nt = 9999) {sum : Nat → Nat → Rd Ex} (hs : GF nt (oE q W) sum) {rec : Option (Nat → Nat → Rd Te)} (hr : ∀ f, rec = some f → GF nt (oT q W) f) : GF nt (oT q W) (plainF q tk sum rec) := by
  intro c i hc hi
  have hm := nots_le he 400 i hi
  unfold plainF
  generalize nots tk 400 i = m at hm ⊢
  unfold plainB
  by_cases e : tk (i + m) = 40
  · rw [if_pos e]
    cases rec with
    | none => exact hm
    | some f =>
      have : i + m ≠ nt := fun z => by rw [z, he] at e; omega
      exact GF_shut (m := m) he (by omega) (fun L n x h => oT_mo (oT_nts m h) (by omega)) (hr f rfl c (i + m + 1) hc (by omega))
  · rw [if_neg e]
    refine Gd_thn (hs c (i + m) hc hm) (fun a L n q1 q2 q3 q4 => ?_)
    cases hcm : cmpT (tk (i + m + n)) with
    | none => exact q4
    | some o =>
      obtain ⟨o1, o2, o3⟩ := cmpT_ok hcm
      have : i + m + n ≠ nt := fun z => by rw [z, he] at o3; exact o3 rfl
      refine Gd_thn (hs (c + L) (i + m + n + 1) q2 (by omega)) (fun b L2 n2 r1 r2 r3 r4 => ?_)
      exact ⟨L + L2, n + n2 + 1 + m, oT_nts m (oT_cmp q1 r1 o1 o2), by show c + L + L2 = c + (L + L2); omega, r2, by show i + (n + n2 + 1 + m) = i + m + n + 1 + n2; omega, by show i < i + m + n + 1 + n2; omega, r4⟩
theorem andT_ok {t o : Nat} (h : andT t = some o) : t = 2013 ∧ o = 13 := by
  unfold andT at h
  split at h
  · injection h with h; exact ⟨by assumption, h.symm⟩
  · cases h
theorem orT_ok {t o : Nat} (h : orT t = some o) : t = 2012 ∧ o = 12 := by
  unfold orT at h
  split at h
  · injection h with h; exact ⟨by assumption, h.symm⟩
  · cases h
theorem GF_testF {q : Bool} {W : Wv} {nt : Nat} {tk : Nat → Nat} (he : tk nt = 9999) {sum : Nat → Nat → Rd Ex} (hs : GF nt (oE q W) sum) {rec : Option (Nat → Nat → Rd Te)} (hr : ∀ f, rec = some f → GF nt (oT q W) f) : GF nt (oT q W) (testF q tk sum rec) :=
  GF_row he (by decide) (fun o t x y L1 L2 n1 n2 ho hx hy => oT_jmp false hx hy) (GF_row he (by decide) (fun o t x y L1 L2 n1 n2 ho hx hy => oT_jmp true hx hy) (GF_plain he hs hr))
theorem GF_test {q : Bool} {W : Wv} {nt : Nat} {tk : Nat → Nat} (he : tk nt = 9999) (hW : wvOK q W) : ∀ b, GF nt (oT q W) (pTest q tk b) := by
  intro b
  induction b with
  | zero => exact GF_testF he (GF_sum he hW 0) (fun f h => by cases h)
  | succ b ih => exact GF_testF he (GF_sum he hW (b + 1)) (fun f h => by injection h with h; rw [← h]; exact ih)
