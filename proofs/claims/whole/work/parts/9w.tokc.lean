/-! the class's tokens -/
def txtC (b : Nat → Nat) (n : Nat) (iv : Nat → Nat → Int32) : Prop := iv 9 1 = nI n ∧ n ≤ 400 ∧ (∀ j, j < n → iv 10 j = nI (b j)) ∧ ∀ j, b j < 256
theorem txtC_fr {b : Nat → Nat} {n : Nat} {iv iv' : Nat → Nat → Int32} (h : txtC b n iv) (h9 : iv' 9 = iv 9) (h10 : iv' 10 = iv 10) : txtC b n iv' := ⟨by rw [h9]; exact h.1, h.2.1, by rw [h10]; exact h.2.2.1, h.2.2.2⟩
section tkc
variable (X : XE) (im lw : List (Option Nat)) (tl : List XC) (lv : Nat → Nat → Int64) {b : Nat → Nat} {n : Nat} {iv : Nat → Nat → Int32}
theorem c_byte (d : Nat) (h : txtC b n iv) {p : Nat} (hp : p ≤ 1000) : call X xT (d + 1) 65 [.inr (.inr (some 9)), .inl (nI p)] (SS im lw tl, iv, lv) = some (some (.inl (if p < n then nI (b p) else -1)), (SS im lw tl, iv, lv)) := by
  obtain ⟨h1, h2, h3, h4⟩ := h
  rw [tr65, if_neg (nI_pos (by omega)), h1]
  by_cases e : p < n
  · rw [if_neg (nI_ge e (by omega)), if_pos (inb_nI (by omega) (by omega)), nI_clamp (by omega), if_pos e, h3 p e]
  · rw [if_pos (nI_le (by omega) (by omega)), if_neg e]
theorem c_kind (d : Nat) (iv : Nat → Nat → Int32) {x : Nat} (hx : x < 256) : call X xT (d + 1) 72 [.inl (nI x)] (SS im lw tl, iv, lv) = some (some (.inl (nI (kd x))), (SS im lw tl, iv, lv)) := by
  rw [tr72]
  unfold kd
  by_cases e : x = 32
  · subst e; rw [if_pos rfl, if_pos rfl]
  have ne : ¬ nI x = nI 32 := fun z => e (by have := congrArg Int32.toNatClampNeg z; rw [nI_clamp (by omega), nI_clamp (by omega)] at this; exact this)
  rw [if_neg ne, if_neg e]
  by_cases e1 : x < 97
  · rw [if_pos (nI_lt e1 (by omega)), if_neg (show ¬ (97 ≤ x ∧ x ≤ 122) by omega)]
    by_cases e2 : x < 48
    · rw [if_pos (nI_lt e2 (by omega)), if_neg (by omega)]
    · rw [if_neg (nI_nlt (by omega) (by omega))]
      by_cases e3 : 57 < x
      · rw [if_pos (nI_lt e3 (by omega)), if_neg (by omega)]
      · rw [if_neg (nI_nlt (by omega) (by omega)), if_pos (by omega)]
  · rw [if_neg (nI_nlt (by omega) (by omega))]
    by_cases e2 : 122 < x
    · rw [if_pos (nI_lt e2 (by omega)), if_neg (show ¬ (97 ≤ x ∧ x ≤ 122) by omega), if_neg (nI_nlt (by omega) (by omega)), if_pos (nI_lt (by omega) (by omega)), if_neg (by omega)]
    · rw [if_neg (nI_nlt (by omega) (by omega)), if_pos (show 97 ≤ x ∧ x ≤ 122 by omega)]
theorem c_numAt (d : Nat) (h : txtC b n iv) {p e : Nat} (hpe : p ≤ e) (he : e ≤ n) (hd : ∀ j, p ≤ j → j < e → 48 ≤ b j ∧ b j ≤ 57) : call X xT (d + 2) 74 [.inr (.inr (some 9)), .inl (nI p), .inl (nI e)] (SS im lw tl, iv, lv) = some (some (.inl (nI (min (vl b (e - p) p 0) 1001))), (SS im lw tl, iv, lv)) := by
  have hn := h.2.1
  have mn : ∀ v : Nat, v < 2 ^ 31 → (if (nI 1001 : Int32) < nI v then nI 1001 else nI v) = nI (min v 1001) := by
    intro v hv
    by_cases q : 1001 < v
    · rw [if_pos (nI_lt q hv), show min v 1001 = 1001 by omega]
    · rw [if_neg (nI_nlt (by omega) (by omega)), show min v 1001 = v by omega]
  have loop : ∀ (k z v : Nat) (p1 : Int32), z + k = e → p ≤ z → v ≤ 10009 → run X (call X xT (d + 1)) false 1 xc74 5 [some (.inr (.inr (some 9))), some (.inl p1), some (.inl (nI e)), some (.inl (nI v)), some (.inl (nI z))] [] (SS im lw tl, iv, lv) = some (some (.inl (nI (min (vl b k z v) 1001))), (SS im lw tl, iv, lv)) := by
    intro k
    induction k with
    | zero =>
      intro z v p1 hz hp hv
      rw [sg74_5, if_pos (nI_le (by omega) (by omega)), mn v (by omega)]
      rfl
    | succ k ih =>
      intro z v p1 hz hp hv
      rw [sg74_5, if_neg (nI_ge (by omega) (by omega))]
      by_cases q : 1000 < v
      · rw [if_pos (nI_lt q (by omega)), mn v (by omega)]
        have := vl_ge b (k + 1) z v
        rw [show min v 1001 = min (vl b (k + 1) z v) 1001 by omega]
      · have := hd z hp (by omega)
        rw [if_neg (nI_nlt (by omega) (by omega)), c_byte X im lw tl lv d h (by omega), bI_some, if_pos (by omega), sg74_28, pk_mul, nI_add, pk_sub (by omega), nI_add, show v * 10 + b z - 48 = v * 10 + (b z - 48) by omega]
        exact ih (z + 1) _ p1 (by omega) (by omega) (by omega)
  rw [tr74]
  exact loop (e - p) p 0 (nI p) (by omega) (by omega) (by omega)
/-- how much of a word is matched -/
def mtI (l U : List Nat) : Int32 := if U <+: l then nI U.length else -1
theorem pre_snoc {l U : List Nat} {x : Nat} : (U ++ [x]) <+: l ↔ U <+: l ∧ l[U.length]? = some x := by
  constructor
  · rintro ⟨t, rfl⟩
    refine ⟨⟨x :: t, by simp⟩, ?_⟩
    simp
  · rintro ⟨⟨t, rfl⟩, h⟩
    rw [List.getElem?_append_right (Nat.le_refl _), Nat.sub_self] at h
    cases t with
    | nil => cases h
    | cons y t =>
      injection h with h
      exact ⟨t, by rw [← h]; simp⟩
theorem lxm_get (b : Nat → Nat) (p e k : Nat) : (lxm b p e)[k]? = if k < e - p then some (b (p + k)) else none := by
  unfold lxm
  rw [List.getElem?_map]
  by_cases h : k < e - p
  · rw [List.getElem?_range h, if_pos h]; rfl
  · rw [List.getElem?_eq_none (by rw [List.length_range]; omega), if_neg h]; rfl
theorem lxm_len (b : Nat → Nat) (p e : Nat) : (lxm b p e).length = e - p := by unfold lxm; rw [List.length_map, List.length_range]
theorem wix_cons (W : List Nat) (ws : List (List Nat)) (l : List Nat) : wix (W :: ws) l = if W = l then some 0 else (wix ws l).map (fun j => j + 1) := by
  unfold wix
  rw [List.findIdx?_cons]
  by_cases h : W = l
  · rw [if_pos h, if_pos (decide_eq_true h)]
  · rw [if_neg h, if_neg (by rw [decide_eq_false h]; decide)]
/-- one word of the row is held against the text -/
theorem c_w1_1000003 (hX : XOK X) (d : Nat) (h : txtC b n iv) {p e : Nat} (hpe : p ≤ e) (he : e ≤ n) (hl2 : e < n → kd (b e) ≠ 1) (k : Nat) : ∀ (V U : List Nat) (i : Nat) (R : List Nat) (w7 : Option XV), (∀ x, x ∈ V → 97 ≤ x ∧ x ≤ 122) → (flW frW).drop i = V ++ 32 :: R → i + V.length < 100 → k < 100 → U.length + V.length ≤ 20 → ∃ w7', run X (call X xT (d + 4)) false 1 xc75 9 [some (.inr (.inr (some 9))), some (.inr (.inr (some 1000003))), some (.inl (nI p)), some (.inl (nI e)), some (.inl (nI k)), some (.inl (mtI (lxm b p e) U)), some (.inl (nI i)), w7] [] (SS im lw tl, iv, lv) = if U ++ V = lxm b p e then some (some (.inl (nI k)), (SS im lw tl, iv, lv)) else run X (call X xT (d + 4)) false 1 xc75 9 [some (.inr (.inr (some 9))), some (.inr (.inr (some 1000003))), some (.inl (nI p)), some (.inl (nI e)), some (.inl (nI (k + 1))), some (.inl (nI 0)), some (.inl (nI (i + V.length + 1))), w7'] [] (SS im lw tl, iv, lv) := by
  have hn := h.2.1
  have at0 : ∀ (i x : Nat) (R : List Nat), (flW frW).drop i = x :: R → (flW frW)[i]? = some x ∧ i < (flW frW).length := by
    intro i x R hd
    have h1 : ((flW frW).drop i)[0]? = some x := by rw [hd]; rfl
    rw [List.getElem?_drop, Nat.add_zero] at h1
    exact ⟨h1, (List.getElem?_eq_some_iff.mp h1).1⟩
  have hL : (flW frW).length < 100 := by decide +kernel
  intro V
  induction V with
  | nil =>
    intro U i R w7 hV hd hi hk hVl
    simp only [List.length_nil] at hVl
    obtain ⟨g1, g2⟩ := at0 i 32 R hd
    rw [sg75_9_1000003, c_len_1000003 X hX (d + 2), bI_some, sg75_15_1000003, if_neg (nI_ge g2 (by omega)), c_chr_1000003 X hX d im lw tl iv lv g1, bI_some, sg75_24, if_pos rfl, pk_sub hpe, nI_add, nI_add, List.append_nil]
    refine ⟨some (.inl (nI 32)), ?_⟩
    have key : mtI (lxm b p e) U = nI (e - p) ↔ U = lxm b p e := by
      unfold mtI
      by_cases q : U <+: lxm b p e
      · rw [if_pos q]
        constructor
        · intro z
          have := congrArg Int32.toNatClampNeg z
          rw [nI_clamp (by omega), nI_clamp (by omega)] at this
          exact q.eq_of_length (by rw [lxm_len]; exact this)
        · intro z; rw [z, lxm_len]
      · rw [if_neg q]
        constructor
        · intro z; exact absurd z.symm (nI_m1 (by omega))
        · intro z; exact absurd (by rw [z]; exact List.prefix_rfl) q
    by_cases q : U = lxm b p e
    · rw [if_pos (key.mpr q), if_pos q]
    · rw [if_neg (fun z => q (key.mp z)), if_neg q]
      rfl
  | cons x V ih =>
    intro U i R w7 hV hd hi hk hVl
    obtain ⟨g1, g2⟩ := at0 i x (V ++ 32 :: R) hd
    have hx := hV x (by simp)
    simp only [List.length_cons] at hi hVl ⊢
    have hd2 : (flW frW).drop (i + 1) = V ++ 32 :: R := by
      rw [← List.drop_drop, hd]; rfl
    have ne : ¬ nI x = nI 32 := fun z => by have := congrArg Int32.toNatClampNeg z; rw [nI_clamp (by omega), nI_clamp (by omega)] at this; omega
    rw [sg75_9_1000003, c_len_1000003 X hX (d + 2), bI_some, sg75_15_1000003, if_neg (nI_ge g2 (by omega)), c_chr_1000003 X hX d im lw tl iv lv g1, bI_some, sg75_24, if_neg ne]
    have nx := fun (w7 : Option XV) (hU2 : U.length ≤ 19) => ih (U ++ [x]) (i + 1) R w7 (fun y hy => hV y (by simp [hy])) hd2 (by omega) hk (by rw [List.length_append, List.length_singleton]; omega)
    have eU : U ++ [x] ++ V = U ++ x :: V := by simp
    by_cases q : U <+: lxm b p e
    · have hUl : U.length ≤ e - p := by have := q.length_le; rw [lxm_len] at this; exact this
      have m1 : mtI (lxm b p e) U = nI U.length := by unfold mtI; rw [if_pos q]
      rw [m1, if_neg (nI_m1 (by omega)), nI_add, c_byte X im lw tl lv (d + 3) h (by omega), bI_some, sg75_67, nI_add, nI_add]
      by_cases hU19 : U.length ≤ 19
      · obtain ⟨w7', r⟩ := nx (some (.inl (nI x))) hU19
        rw [eU] at r
        rw [show i + 1 + V.length + 1 = i + (V.length + 1) + 1 by omega] at r
        refine ⟨w7', ?_⟩
        rw [← r]
        have key : ((if p + U.length < n then nI (b (p + U.length)) else (-1 : Int32)) = nI x) ↔ (lxm b p e)[U.length]? = some x := by
          rw [lxm_get]
          by_cases c : U.length < e - p
          · rw [if_pos (by omega), if_pos c]
            have hb := h.2.2.2 (p + U.length)
            constructor
            · intro z; have := congrArg Int32.toNatClampNeg z; rw [nI_clamp (by omega), nI_clamp (by omega)] at this; rw [this]
            · intro z; injection z with z; rw [z]
          · rw [if_neg c]
            refine ⟨fun z => ?_, fun z => by cases z⟩
            exfalso
            have pe : p + U.length = e := by omega
            rw [pe] at z
            by_cases c2 : e < n
            · rw [if_pos c2] at z
              have hb := h.2.2.2 e
              have := congrArg Int32.toNatClampNeg z
              rw [nI_clamp (by omega), nI_clamp (by omega)] at this
              apply hl2 c2
              rw [this]
              unfold kd
              rw [if_neg (by omega), if_pos hx]
            · rw [if_neg c2] at z; exact absurd z.symm (nI_m1 (by omega))
        by_cases c : (lxm b p e)[U.length]? = some x
        · rw [if_pos (key.mpr c)]
          have : mtI (lxm b p e) (U ++ [x]) = nI (U.length + 1) := by
            unfold mtI
            rw [if_pos (pre_snoc.mpr ⟨q, c⟩), List.length_append, List.length_singleton]
          rw [this]
        · rw [if_neg (fun z => c (key.mp z))]
          have : mtI (lxm b p e) (U ++ [x]) = -1 := by
            unfold mtI
            rw [if_neg (fun z => c (pre_snoc.mp z).2)]
          rw [this]
      · exfalso; omega
    · have m1 : mtI (lxm b p e) U = -1 := by unfold mtI; rw [if_neg q]
      rw [m1, if_pos rfl, nI_add]
      by_cases hU19 : U.length ≤ 19
      · obtain ⟨w7', r⟩ := nx (some (.inl (nI x))) hU19
        rw [eU, show i + 1 + V.length + 1 = i + (V.length + 1) + 1 by omega] at r
        refine ⟨w7', ?_⟩
        rw [← r]
        have : mtI (lxm b p e) (U ++ [x]) = -1 := by
          unfold mtI
          rw [if_neg (fun z => q (pre_snoc.mp z).1)]
        rw [this]
      · exfalso; omega
theorem c_word_1000003 (hX : XOK X) (d : Nat) (h : txtC b n iv) {p e : Nat} (hpe : p ≤ e) (he : e ≤ n) (hl2 : e < n → kd (b e) ≠ 1) : call X xT (d + 5) 75 [.inr (.inr (some 9)), .inr (.inr (some 1000003)), .inl (nI p), .inl (nI e)] (SS im lw tl, iv, lv) = some (some (.inl (match wix frW (lxm b p e) with
    | some j => nI j
    | none => -1)), (SS im lw tl, iv, lv)) := by
  have hL : (flW frW).length < 100 := by decide +kernel
  have hwl : ∀ W, W ∈ frW → W.length ≤ 19 ∧ ∀ x, x ∈ W → 97 ≤ x ∧ x ≤ 122 := by decide +kernel
  have loop : ∀ (ws : List (List Nat)) (k i : Nat) (w7 : Option XV), (∀ W, W ∈ ws → W ∈ frW) → (flW frW).drop i = flW ws → i + (flW ws).length = (flW frW).length → k + ws.length < 100 → run X (call X xT (d + 4)) false 1 xc75 9 [some (.inr (.inr (some 9))), some (.inr (.inr (some 1000003))), some (.inl (nI p)), some (.inl (nI e)), some (.inl (nI k)), some (.inl (nI 0)), some (.inl (nI i)), w7] [] (SS im lw tl, iv, lv) = some (some (.inl (match wix ws (lxm b p e) with
      | some j => nI (k + j)
      | none => -1)), (SS im lw tl, iv, lv)) := by
    intro ws
    induction ws with
    | nil =>
      intro k i w7 hw hd hi hk
      rw [sg75_9_1000003, c_len_1000003 X hX (d + 2), bI_some, sg75_15_1000003, if_pos (nI_le (by rw [← hi]; exact Nat.le_refl _) (by omega))]
      rfl
    | cons W ws ih =>
      intro k i w7 hw hd hi hk
      obtain ⟨l1, l2⟩ := hwl W (hw W (by simp))
      have ef : flW (W :: ws) = W ++ 32 :: flW ws := by unfold flW; simp
      rw [ef] at hd hi
      simp only [List.length_append, List.length_cons] at hi hk
      obtain ⟨w7', r⟩ := c_w1_1000003 X im lw tl lv hX d h hpe he hl2 k W [] i (flW ws) w7 l2 hd (by omega) (by omega) (by rw [List.length_nil]; omega)
      have m0 : mtI (lxm b p e) [] = nI 0 := by unfold mtI; rw [if_pos List.nil_prefix]; rfl
      rw [m0, List.nil_append] at r
      rw [r, wix_cons]
      by_cases q : W = lxm b p e
      · rw [if_pos q, if_pos q]; rfl
      · rw [if_neg q, if_neg q]
        have hd2 : (flW frW).drop (i + W.length + 1) = flW ws := by
          rw [show i + W.length + 1 = i + (W.length + 1) by omega, ← List.drop_drop, hd, List.drop_append, List.drop_eq_nil_of_le (by omega), show W.length + 1 - W.length = 1 by omega]; rfl
        rw [ih (k + 1) (i + W.length + 1) w7' (fun V hV => hw V (by simp [hV])) hd2 (by omega) (by omega)]
        cases wix ws (lxm b p e) with
        | none => rfl
        | some j => simp only [Option.map_some]; rw [show k + 1 + j = k + (j + 1) by omega]
  rw [tr75, loop frW 0 0 none (fun W h => h) rfl (by omega) (by decide)]
  cases wix frW (lxm b p e) with
  | none => rfl
  | some j => simp only [Nat.zero_add]
/-- one word of the row is held against the text -/
theorem c_w1_1000005 (hX : XOK X) (d : Nat) (h : txtC b n iv) {p e : Nat} (hpe : p ≤ e) (he : e ≤ n) (hl2 : e < n → kd (b e) ≠ 1) (k : Nat) : ∀ (V U : List Nat) (i : Nat) (R : List Nat) (w7 : Option XV), (∀ x, x ∈ V → 97 ≤ x ∧ x ≤ 122) → (flW paW).drop i = V ++ 32 :: R → i + V.length < 100 → k < 100 → U.length + V.length ≤ 20 → ∃ w7', run X (call X xT (d + 4)) false 1 xc75 9 [some (.inr (.inr (some 9))), some (.inr (.inr (some 1000005))), some (.inl (nI p)), some (.inl (nI e)), some (.inl (nI k)), some (.inl (mtI (lxm b p e) U)), some (.inl (nI i)), w7] [] (SS im lw tl, iv, lv) = if U ++ V = lxm b p e then some (some (.inl (nI k)), (SS im lw tl, iv, lv)) else run X (call X xT (d + 4)) false 1 xc75 9 [some (.inr (.inr (some 9))), some (.inr (.inr (some 1000005))), some (.inl (nI p)), some (.inl (nI e)), some (.inl (nI (k + 1))), some (.inl (nI 0)), some (.inl (nI (i + V.length + 1))), w7'] [] (SS im lw tl, iv, lv) := by
  have hn := h.2.1
  have at0 : ∀ (i x : Nat) (R : List Nat), (flW paW).drop i = x :: R → (flW paW)[i]? = some x ∧ i < (flW paW).length := by
    intro i x R hd
    have h1 : ((flW paW).drop i)[0]? = some x := by rw [hd]; rfl
    rw [List.getElem?_drop, Nat.add_zero] at h1
    exact ⟨h1, (List.getElem?_eq_some_iff.mp h1).1⟩
  have hL : (flW paW).length < 100 := by decide +kernel
  intro V
  induction V with
  | nil =>
    intro U i R w7 hV hd hi hk hVl
    simp only [List.length_nil] at hVl
    obtain ⟨g1, g2⟩ := at0 i 32 R hd
    rw [sg75_9_1000005, c_len_1000005 X hX (d + 2), bI_some, sg75_15_1000005, if_neg (nI_ge g2 (by omega)), c_chr_1000005 X hX d im lw tl iv lv g1, bI_some, sg75_24, if_pos rfl, pk_sub hpe, nI_add, nI_add, List.append_nil]
    refine ⟨some (.inl (nI 32)), ?_⟩
    have key : mtI (lxm b p e) U = nI (e - p) ↔ U = lxm b p e := by
      unfold mtI
      by_cases q : U <+: lxm b p e
      · rw [if_pos q]
        constructor
        · intro z
          have := congrArg Int32.toNatClampNeg z
          rw [nI_clamp (by omega), nI_clamp (by omega)] at this
          exact q.eq_of_length (by rw [lxm_len]; exact this)
        · intro z; rw [z, lxm_len]
      · rw [if_neg q]
        constructor
        · intro z; exact absurd z.symm (nI_m1 (by omega))
        · intro z; exact absurd (by rw [z]; exact List.prefix_rfl) q
    by_cases q : U = lxm b p e
    · rw [if_pos (key.mpr q), if_pos q]
    · rw [if_neg (fun z => q (key.mp z)), if_neg q]
      rfl
  | cons x V ih =>
    intro U i R w7 hV hd hi hk hVl
    obtain ⟨g1, g2⟩ := at0 i x (V ++ 32 :: R) hd
    have hx := hV x (by simp)
    simp only [List.length_cons] at hi hVl ⊢
    have hd2 : (flW paW).drop (i + 1) = V ++ 32 :: R := by
      rw [← List.drop_drop, hd]; rfl
    have ne : ¬ nI x = nI 32 := fun z => by have := congrArg Int32.toNatClampNeg z; rw [nI_clamp (by omega), nI_clamp (by omega)] at this; omega
    rw [sg75_9_1000005, c_len_1000005 X hX (d + 2), bI_some, sg75_15_1000005, if_neg (nI_ge g2 (by omega)), c_chr_1000005 X hX d im lw tl iv lv g1, bI_some, sg75_24, if_neg ne]
    have nx := fun (w7 : Option XV) (hU2 : U.length ≤ 19) => ih (U ++ [x]) (i + 1) R w7 (fun y hy => hV y (by simp [hy])) hd2 (by omega) hk (by rw [List.length_append, List.length_singleton]; omega)
    have eU : U ++ [x] ++ V = U ++ x :: V := by simp
    by_cases q : U <+: lxm b p e
    · have hUl : U.length ≤ e - p := by have := q.length_le; rw [lxm_len] at this; exact this
      have m1 : mtI (lxm b p e) U = nI U.length := by unfold mtI; rw [if_pos q]
      rw [m1, if_neg (nI_m1 (by omega)), nI_add, c_byte X im lw tl lv (d + 3) h (by omega), bI_some, sg75_67, nI_add, nI_add]
      by_cases hU19 : U.length ≤ 19
      · obtain ⟨w7', r⟩ := nx (some (.inl (nI x))) hU19
        rw [eU] at r
        rw [show i + 1 + V.length + 1 = i + (V.length + 1) + 1 by omega] at r
        refine ⟨w7', ?_⟩
        rw [← r]
        have key : ((if p + U.length < n then nI (b (p + U.length)) else (-1 : Int32)) = nI x) ↔ (lxm b p e)[U.length]? = some x := by
          rw [lxm_get]
          by_cases c : U.length < e - p
          · rw [if_pos (by omega), if_pos c]
            have hb := h.2.2.2 (p + U.length)
            constructor
            · intro z; have := congrArg Int32.toNatClampNeg z; rw [nI_clamp (by omega), nI_clamp (by omega)] at this; rw [this]
            · intro z; injection z with z; rw [z]
          · rw [if_neg c]
            refine ⟨fun z => ?_, fun z => by cases z⟩
            exfalso
            have pe : p + U.length = e := by omega
            rw [pe] at z
            by_cases c2 : e < n
            · rw [if_pos c2] at z
              have hb := h.2.2.2 e
              have := congrArg Int32.toNatClampNeg z
              rw [nI_clamp (by omega), nI_clamp (by omega)] at this
              apply hl2 c2
              rw [this]
              unfold kd
              rw [if_neg (by omega), if_pos hx]
            · rw [if_neg c2] at z; exact absurd z.symm (nI_m1 (by omega))
        by_cases c : (lxm b p e)[U.length]? = some x
        · rw [if_pos (key.mpr c)]
          have : mtI (lxm b p e) (U ++ [x]) = nI (U.length + 1) := by
            unfold mtI
            rw [if_pos (pre_snoc.mpr ⟨q, c⟩), List.length_append, List.length_singleton]
          rw [this]
        · rw [if_neg (fun z => c (key.mp z))]
          have : mtI (lxm b p e) (U ++ [x]) = -1 := by
            unfold mtI
            rw [if_neg (fun z => c (pre_snoc.mp z).2)]
          rw [this]
      · exfalso; omega
    · have m1 : mtI (lxm b p e) U = -1 := by unfold mtI; rw [if_neg q]
      rw [m1, if_pos rfl, nI_add]
      by_cases hU19 : U.length ≤ 19
      · obtain ⟨w7', r⟩ := nx (some (.inl (nI x))) hU19
        rw [eU, show i + 1 + V.length + 1 = i + (V.length + 1) + 1 by omega] at r
        refine ⟨w7', ?_⟩
        rw [← r]
        have : mtI (lxm b p e) (U ++ [x]) = -1 := by
          unfold mtI
          rw [if_neg (fun z => q (pre_snoc.mp z).1)]
        rw [this]
      · exfalso; omega
theorem c_word_1000005 (hX : XOK X) (d : Nat) (h : txtC b n iv) {p e : Nat} (hpe : p ≤ e) (he : e ≤ n) (hl2 : e < n → kd (b e) ≠ 1) : call X xT (d + 5) 75 [.inr (.inr (some 9)), .inr (.inr (some 1000005)), .inl (nI p), .inl (nI e)] (SS im lw tl, iv, lv) = some (some (.inl (match wix paW (lxm b p e) with
    | some j => nI j
    | none => -1)), (SS im lw tl, iv, lv)) := by
  have hL : (flW paW).length < 100 := by decide +kernel
  have hwl : ∀ W, W ∈ paW → W.length ≤ 19 ∧ ∀ x, x ∈ W → 97 ≤ x ∧ x ≤ 122 := by decide +kernel
  have loop : ∀ (ws : List (List Nat)) (k i : Nat) (w7 : Option XV), (∀ W, W ∈ ws → W ∈ paW) → (flW paW).drop i = flW ws → i + (flW ws).length = (flW paW).length → k + ws.length < 100 → run X (call X xT (d + 4)) false 1 xc75 9 [some (.inr (.inr (some 9))), some (.inr (.inr (some 1000005))), some (.inl (nI p)), some (.inl (nI e)), some (.inl (nI k)), some (.inl (nI 0)), some (.inl (nI i)), w7] [] (SS im lw tl, iv, lv) = some (some (.inl (match wix ws (lxm b p e) with
      | some j => nI (k + j)
      | none => -1)), (SS im lw tl, iv, lv)) := by
    intro ws
    induction ws with
    | nil =>
      intro k i w7 hw hd hi hk
      rw [sg75_9_1000005, c_len_1000005 X hX (d + 2), bI_some, sg75_15_1000005, if_pos (nI_le (by rw [← hi]; exact Nat.le_refl _) (by omega))]
      rfl
    | cons W ws ih =>
      intro k i w7 hw hd hi hk
      obtain ⟨l1, l2⟩ := hwl W (hw W (by simp))
      have ef : flW (W :: ws) = W ++ 32 :: flW ws := by unfold flW; simp
      rw [ef] at hd hi
      simp only [List.length_append, List.length_cons] at hi hk
      obtain ⟨w7', r⟩ := c_w1_1000005 X im lw tl lv hX d h hpe he hl2 k W [] i (flW ws) w7 l2 hd (by omega) (by omega) (by rw [List.length_nil]; omega)
      have m0 : mtI (lxm b p e) [] = nI 0 := by unfold mtI; rw [if_pos List.nil_prefix]; rfl
      rw [m0, List.nil_append] at r
      rw [r, wix_cons]
      by_cases q : W = lxm b p e
      · rw [if_pos q, if_pos q]; rfl
      · rw [if_neg q, if_neg q]
        have hd2 : (flW paW).drop (i + W.length + 1) = flW ws := by
          rw [show i + W.length + 1 = i + (W.length + 1) by omega, ← List.drop_drop, hd, List.drop_append, List.drop_eq_nil_of_le (by omega), show W.length + 1 - W.length = 1 by omega]; rfl
        rw [ih (k + 1) (i + W.length + 1) w7' (fun V hV => hw V (by simp [hV])) hd2 (by omega) (by omega)]
        cases wix ws (lxm b p e) with
        | none => rfl
        | some j => simp only [Option.map_some]; rw [show k + 1 + j = k + (j + 1) by omega]
  rw [tr75, loop paW 0 0 none (fun W h => h) rfl (by omega) (by decide)]
  cases wix paW (lxm b p e) with
  | none => rfl
  | some j => simp only [Nat.zero_add]
theorem c_tokenOf (hX : XOK X) (d : Nat) (h : txtC b n iv) {p : Nat} (hp : p < n) (h0 : kd (b p) ≠ 0) : call X xT (d + 6) 73 [.inr (.inr (some 11)), .inl (nI (kd (b p))), .inl (nI p), .inl (nI (enT b n p))] (SS im lw tl, iv, lv) = some (some (.inl (nI (tkP b n p))), (SS im lw tl, iv, lv)) := by
  have hn := h.2.1
  have hk := kd_le (b p)
  have hg := enT_gt b n p
  have he := enT_le b hp
  have neq : ∀ a c : Nat, a ≤ 3 → c ≤ 3 → a ≠ c → ¬ nI a = nI c := fun a c h1 h2 h3 z => h3 (by have := congrArg Int32.toNatClampNeg z; rw [nI_clamp (by omega), nI_clamp (by omega)] at this; exact this)
  rw [tr73]
  unfold tkP
  by_cases e3 : kd (b p) = 3
  · rw [if_pos (by rw [e3]), if_pos e3, c_byte X im lw tl lv (d + 4) h (by omega), bI_some, if_pos hp, sg73_13]
  rw [if_neg (neq _ 3 hk (by omega) e3), if_neg e3]
  obtain ⟨a1, a2⟩ := enT_kd (b := b) (n := n) e3
  by_cases e2 : kd (b p) = 2
  · rw [if_pos (by rw [e2]), if_pos e2, c_numAt X im lw tl lv (d + 3) h (by omega) he (fun j h1 h2 => kd_2 (by rw [a1 j h1 h2]; exact e2)), bI_some, sg73_31, nI_add]
  rw [if_neg (neq _ 2 hk (by omega) e2), if_neg e2]
  have e1 : kd (b p) = 1 := by omega
  rw [c_word_1000003 X im lw tl lv hX d h (by omega) he (fun z => by rw [← e1]; exact a2 z), bI_some, sg73_44]
  unfold wcd
  cases hw : wix frW (lxm b p (enT b n p)) with
  | some j =>
    have := wix_lt hw
    have : frW.length = 15 := rfl
    simp only
    rw [if_neg (nI_m1 (by omega)), nI_add]
  | none =>
    simp only
    rw [if_pos (by trivial), c_word_1000005 X im lw tl lv hX d h (by omega) he (fun z => by rw [← e1]; exact a2 z), bI_some, sg73_70]
    cases hw2 : wix paW (lxm b p (enT b n p)) with
    | some j =>
      have := wix_lt hw2
      have : paW.length = 13 := rfl
      simp only
      rw [if_neg (nI_m1 (by omega)), nI_add]
    | none =>
      simp only
      rw [if_pos (by trivial)]
end tkc
