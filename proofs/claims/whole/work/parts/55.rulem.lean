/-! the reference: the rules -/
theorem mx_h {p : Nat} (h : p < 6) : mx (5 + p) = 8 + p := by unfold mx; split <;> (try split) <;> (try split) <;> omega
theorem mx_t {p : Nat} (h : p < 6) : mx (11 + p) = 14 + p := by unfold mx; split <;> (try split) <;> (try split) <;> omega
theorem mx_b {p : Nat} (h : p < 6) : mx (17 + p) = 20 + p := by unfold mx; split <;> (try split) <;> (try split) <;> omega
theorem mx_n {t : Nat} (h : t < 4) : mx (23 + t) = 58 + t := by unfold mx; split <;> (try split) <;> (try split) <;> omega
theorem mx_m {t : Nat} (h : t < 4) : mx (27 + t) = 26 + t := by unfold mx; split <;> (try split) <;> (try split) <;> omega
theorem mx_a {t : Nat} (h : t < 4) : mx (31 + t) = 30 + t := by unfold mx; split <;> (try split) <;> (try split) <;> omega
theorem mx_y {t p : Nat} (h : t < 4) (h2 : p < 6) : mx (35 + (t * 6 + p)) = 34 + 6 * t + p := by unfold mx; split <;> (try split) <;> (try split) <;> omega
theorem mx_lt {j : Nat} (h : j < 59) : mx j < 62 := by unfold mx; split <;> (try split) <;> (try split) <;> omega
theorem mx_inj {i j : Nat} (hi : i < 59) (hj : j < 59) (h : mx i = mx j) : i = j := by
  unfold mx at h
  repeat' split at h
  all_goals omega
theorem lN_m1 : lN 18446744073709551615 = (-1 : Int32).toInt64 := by decide
theorem lawG.cl {g : Nat → Int32} {cl : Nat → CL} {n : Nat} (h : lawG g cl n) : ∀ i, i < n → ((cl i).1 = 3 → ∀ w, (cl i).2.2 w = some (lN 1)) ∧ ((cl i).1 ≠ 3 → ∀ w v, (cl i).2.2 w = some v → v.toInt32.toInt64 = v) := by
  rcases h with ⟨-, e⟩ | ⟨k, -, -, -, -, cd, sz, -, -, hc⟩
  · intro i hi; omega
  · intro i hi
    obtain ⟨-, -, -, c1, c2⟩ := hc i hi
    exact ⟨c1, fun h => (c2 h).2⟩
theorem tell_src {cl : Nat → CL} {k : Nat} {w : Nat → Int32} : ∀ {n : Nat} {v : Int64}, tellN cl k w n = some v → ∃ i, i < n ∧ (cl i).1 = k ∧ (cl i).2.2 w = some v := by
  intro n
  induction n with
  | zero => intro v h; cases h
  | succ n ih =>
    intro v h
    simp only [tellN] at h
    cases ho : one1 (cl n) k w with
    | none =>
      rw [ho] at h
      obtain ⟨i, h1, h2⟩ := ih h
      exact ⟨i, by omega, h2⟩
    | some u =>
      rw [ho] at h
      injection h with h
      unfold one1 at ho
      split at ho
      · rename_i hk
        split at ho
        · split at ho
          · cases ho
          · exact ⟨n, by omega, hk, by rw [ho, h]⟩
        · cases ho
      · cases ho
theorem tell_fit {g : Nat → Int32} {cl : Nat → CL} {n k : Nat} (h : lawG g cl n) (hk : k ≠ 3) {w : Nat → Int32} {v : Int64} (hv : tellN cl k w n = some v) : v.toInt32.toInt64 = v := by
  obtain ⟨i, h1, h2, h3⟩ := tell_src hv
  exact (h.cl i h1).2 (by omega) w v h3
theorem tell_bar {g : Nat → Int32} {cl : Nat → CL} {n : Nat} (h : lawG g cl n) {w : Nat → Int32} {v : Int64} (hv : tellN cl 3 w n = some v) : v = lN 1 := by
  obtain ⟨i, h1, h2, h3⟩ := tell_src hv
  rw [(h.cl i h1).1 h2 w] at h3
  exact (Option.some.inj h3).symm
theorem ib13 : inb (nI 3) 13 = true ∧ inb (nI 4) 13 = true ∧ inb (nI 5) 13 = true ∧ inb (nI 6) 13 = true ∧ inb (nI 7) 13 = true ∧ inb (nI 8) 13 = true := by decide
theorem ib5k {n : Nat} (h : n < 5510) : inb (nI n) 5510 = true := inb_nI h (by omega)
theorem ten {j : Nat} (h : j < 10) : j = 0 ∨ j = 1 ∨ j = 2 ∨ j = 3 ∨ j = 4 ∨ j = 5 ∨ j = 6 ∨ j = 7 ∨ j = 8 ∨ j = 9 := by omega
set_option maxRecDepth 100000 in
/-- tells -/
theorem m_tells (X : XE) (d : Nat) (im lw : List (Option Nat)) (tl : List XC) (iv : Nat → Nat → Int32) (lv : Nat → Nat → Int64) (h20 : iv 46 20 = nI 0) {cl : Nat → CL} {n hd : Nat} (hh : hd < 4) (hl : lawG (iv 48) cl n) (t p : Option Nat) (ht : ∀ n, t = some n → n < 4) (hp : ∀ n, p = some n → n < 6) (hne : t = none → p ≠ none) (v4 : Int64) :
    ∃ iv' lv', call X xT (d + 4) 211 [.inr (.inr (some 46)), .inl (nI hd), .inl (wI t), .inl (wI p), .inr (.inl v4)] (SS im lw tl, iv, lv) = some (some (.inr (.inl ((tellN cl hd (wd (fM (iv 48)) t p) n).getD v4))), (SS im lw tl, iv', lv')) ∧ agM iv iv' ∧ agN lv lv' := by
  rcases hl with ⟨e, e2⟩ | ⟨k, hk, e, hl⟩
  · rw [tr211, if_pos e, e2]
    exact ⟨iv, lv, rfl, agM.rf, agN.rf⟩
  · have fin : ∀ (lv1 : Nat → Nat → Int64), agN lv lv1 → (∀ j, j < 10 → lv1 64 (j + 1) = (wd (fM (iv 48)) t p j).toInt64) → ∃ iv' lv', run X (call X xT (d + 3)) false 2 xc211 257 [some (.inr (.inr (some 46))), some (.inl (nI hd)), some (.inl (wI t)), some (.inl (wI p)), some (.inr (.inl v4)), none, some (.inr (.inl v4)), none, some (.inl (nI 0)), none] [] (SS im lw tl, upd2 iv 46 34 (nI (110 + 900 * k)), lv1) = some (some (.inr (.inl ((tellN cl hd (wd (fM (iv 48)) t p) n).getD v4))), (SS im lw tl, iv', lv')) ∧ agM iv iv' ∧ agN lv lv' := by
      intro lv1 a1 hw
      obtain ⟨iv', lv', k1, k2, k3⟩ := m_tells_loop X d im lw tl (b := 110 + 900 * k) (by omega) (cl := cl) (n := n) hh (w := wd (fM (iv 48)) t p) (wI t) (wI p) v4 n 0 (upd2 iv 46 34 (nI (110 + 900 * k))) lv1 none (by omega) (upd2_self _ _ _ _) (by rw [upd2_ne _ _ _ _ (by omega)]; exact h20) (by rw [upd2_off _ _ _ _ (by decide)]; exact hl) hw
      refine ⟨iv', lv', k1, ?_, a1.tr k3.N⟩
      intro a j h
      rw [k2.M a j h, upd2_ne _ _ _ _ (fun q => h ⟨q.1, Or.inl q.2⟩)]
    have frm : ∀ (x1 x2 x3 x4 x5 x6 x7 x8 x9 x10 : Int64), agN lv (upd2 (upd2 (upd2 (upd2 (upd2 (upd2 (upd2 (upd2 (upd2 (upd2 lv 64 1 x1) 64 2 x2) 64 3 x3) 64 4 x4) 64 5 x5) 64 6 x6) 64 7 x7) 64 8 x8) 64 9 x9) 64 10 x10) := by
      intro x1 x2 x3 x4 x5 x6 x7 x8 x9 x10 a j h1 h2 h3
      simp only [upd2_off _ _ _ _ h2]
    obtain ⟨i3, i4, i5, i6, i7, i8⟩ := ib13
    have k3 : (nI 3).toNatClampNeg = 3 := nI_clamp (by decide)
    have k4 : (nI 4).toNatClampNeg = 4 := nI_clamp (by decide)
    have k5 : (nI 5).toNatClampNeg = 5 := nI_clamp (by decide)
    have k6 : (nI 6).toNatClampNeg = 6 := nI_clamp (by decide)
    have k7 : (nI 7).toNatClampNeg = 7 := nI_clamp (by decide)
    have k8 : (nI 8).toNatClampNeg = 8 := nI_clamp (by decide)
    have z0 : ((-1 : Int32) = -1) = True := eq_self _
    have u48 : ∀ (x : Int32) (j : Nat), (upd2 iv 46 34 x) 48 j = iv 48 j := fun x j => by rw [upd2_off _ _ _ _ (by decide)]
    rw [tr211, e, if_neg (nI_m1 (by omega)), pk_mul, nI_add]
    cases t with
    | none =>
      cases p with
      | none =>
        exact absurd rfl (hne rfl)
      | some p =>
        have hp := hp p rfl
        have n1 : (nI p = -1) = False := eq_false (nI_m1 (by omega))
        have a1 := ib5k (n := 8 + p) (by omega)
        have a2 := ib5k (n := 14 + p) (by omega)
        have a3 := ib5k (n := 20 + p) (by omega)
        have c1 : (nI (8 + p)).toNatClampNeg = 8 + p := nI_clamp (by omega)
        have c2 : (nI (14 + p)).toNatClampNeg = 14 + p := nI_clamp (by omega)
        have c3 : (nI (20 + p)).toNatClampNeg = 20 + p := nI_clamp (by omega)
        simp only [wI, z0, n1, if_true, if_false, sg211_72, sg211_99, sg211_115, sg211_136, sg211_164, sg211_192, sg211_220, i3, i4, i5, i6, i7, i8, k3, k4, k5, k6, k7, k8, nI_add, a1, a2, a3, c1, c2, c3, u48]
        refine fin _ (frm _ _ _ _ _ _ _ _ _ _) (fun j hj => ?_)
        rcases ten hj with rfl | rfl | rfl | rfl | rfl | rfl | rfl | rfl | rfl | rfl <;> simp [upd2, wd, wI, lN_m1, fM, mx_h hp, mx_t hp, mx_b hp] <;> rfl
    | some t =>
      have ht := ht t rfl
      have n0 : (nI t = -1) = False := eq_false (nI_m1 (by omega))
      have a4 := ib5k (n := 58 + t) (by omega)
      have a5 := ib5k (n := 26 + t) (by omega)
      have c4 : (nI (58 + t)).toNatClampNeg = 58 + t := nI_clamp (by omega)
      have c5 : (nI (26 + t)).toNatClampNeg = 26 + t := nI_clamp (by omega)
      cases p with
      | none =>
        rw [show wI none = -1 from rfl, show wI (some t) = nI t from rfl, if_pos rfl, sg211_72, if_pos i3, if_pos rfl, sg211_99, if_pos i4, if_pos rfl, sg211_115, sg211_136, if_pos i5, if_neg (nI_m1 (by omega)), nI_add, if_pos a4, sg211_164, if_pos i6, if_neg (nI_m1 (by omega)), nI_add, if_pos a5, sg211_192, if_pos i7, if_pos rfl, sg211_220, if_pos i8, k3, k4, k5, k6, k7, k8, c4, c5, u48, u48, u48, u48]
        refine fin _ (frm _ _ _ _ _ _ _ _ _ _) (fun j hj => ?_)
        rcases ten hj with rfl | rfl | rfl | rfl | rfl | rfl | rfl | rfl | rfl | rfl <;> simp [upd2, wd, wI, lN_m1, fM, mx_n ht, mx_m ht] <;> rfl
      | some p =>
        have hp := hp p rfl
        have n1 : (nI p = -1) = False := eq_false (nI_m1 (by omega))
        have a1 := ib5k (n := 8 + p) (by omega)
        have a2 := ib5k (n := 14 + p) (by omega)
        have a3 := ib5k (n := 20 + p) (by omega)
        have c1 : (nI (8 + p)).toNatClampNeg = 8 + p := nI_clamp (by omega)
        have c2 : (nI (14 + p)).toNatClampNeg = 14 + p := nI_clamp (by omega)
        have c3 : (nI (20 + p)).toNatClampNeg = 20 + p := nI_clamp (by omega)
        have a6 := ib5k (n := 34 + 6 * t + p) (by omega)
        have c6 : (nI (34 + 6 * t + p)).toNatClampNeg = 34 + 6 * t + p := nI_clamp (by omega)
        simp only [wI, n0, n1, if_true, if_false, sg211_72, sg211_99, sg211_136, sg211_164, sg211_192, sg211_220, i3, i4, i5, i6, i7, i8, k3, k4, k5, k6, k7, k8, pk_mul, nI_add, a1, a2, a3, a4, a5, a6, c1, c2, c3, c4, c5, c6, u48]
        refine fin _ (frm _ _ _ _ _ _ _ _ _ _) (fun j hj => ?_)
        rcases ten hj with rfl | rfl | rfl | rfl | rfl | rfl | rfl | rfl | rfl | rfl <;> simp [upd2, wd, wI, lN_m1, fM, mx_h hp, mx_t hp, mx_b hp, mx_n ht, mx_m ht, mx_y ht hp] <;> rfl
/-- within -/
def nearL (lo hi : Int32) (x : Int64) : Int32 := if x < lo.toInt64 then lo else if hi.toInt64 < x then hi else x.toInt32
theorem m_within (X : XE) (d : Nat) (im lw : List (Option Nat)) (tl : List XC) (iv : Nat → Nat → Int32) (lv : Nat → Nat → Int64) (x : Int64) (lo hi : Int32) : call X xT (d + 1) 217 [.inr (.inl x), .inl lo, .inl hi] (SS im lw tl, iv, lv) = some (some (.inl (nearL lo hi x)), (SS im lw tl, iv, lv)) := by
  rw [tr217]
  unfold nearL
  by_cases h1 : x < lo.toInt64
  · rw [if_neg (fun q => by rw [lg_cmp_ge, fb_le64] at q; rw [fb_lt64] at h1; omega), if_pos h1]
  · rw [if_pos (by rw [lg_cmp_ge, fb_le64]; rw [fb_lt64] at h1; omega), if_neg h1]
    by_cases h2 : hi.toInt64 < x
    · rw [if_neg (fun q => by rw [lg_cmp_le, fb_le64] at q; rw [fb_lt64] at h2; omega), if_pos h2]
    · rw [if_pos (by rw [lg_cmp_le, fb_le64]; rw [fb_lt64] at h2; omega), if_neg h2]
theorem near_fit (x : Int32) {top : Nat} (ht : top < 2 ^ 31) : nearL (nI 0) (nI top) x.toInt64 = near (nI top) x := by
  unfold nearL near
  simp only [fb_lt64, fb_lt, Int32.toInt_toInt64, nI_toInt ht, nI_toInt (show 0 < 2 ^ 31 by decide)]
  rw [Int32.toInt32_toInt64]
  by_cases h1 : x.toInt < ((0 : Nat) : Int)
  · rw [if_pos h1]
    by_cases h2 : x.toInt < (top : Int)
    · rw [if_pos h2, if_neg (by omega)]
    · omega
  · rw [if_neg h1]
    by_cases h2 : (top : Int) < x.toInt
    · rw [if_pos h2, if_neg (show ¬ x.toInt < (top : Int) by omega), nI_toInt ht]
      by_cases h3 : ((0 : Nat) : Int) < (top : Int)
      · rw [if_pos h3]
      · rw [if_neg h3, show top = 0 by omega]
    · rw [if_neg h2]
      by_cases h3 : x.toInt < (top : Int)
      · rw [if_pos h3]
        by_cases h4 : ((0 : Nat) : Int) < x.toInt
        · rw [if_pos h4]
        · rw [if_neg h4, fb_eq, nI_toInt (show 0 < 2 ^ 31 by decide)]; omega
      · rw [if_neg h3, nI_toInt ht]
        by_cases h4 : ((0 : Nat) : Int) < (top : Int)
        · rw [if_pos h4, fb_eq, nI_toInt ht]; omega
        · rw [if_neg h4, fb_eq, nI_toInt (show 0 < 2 ^ 31 by decide)]; omega
theorem nearL_fit {v : Int64} (h : v.toInt32.toInt64 = v) {top : Nat} (ht : top < 2 ^ 31) : nearL (nI 0) (nI top) v = near (nI top) v.toInt32 := by
  rw [← near_fit v.toInt32 ht, h]
theorem m_hungers (X : XE) (d : Nat) (im lw : List (Option Nat)) (tl : List XC) (iv : Nat → Nat → Int32) (lv : Nat → Nat → Int64) (h20 : iv 46 20 = nI 0) {cl : Nat → CL} {n : Nat} (hl : lawG (iv 48) cl n) {p : Nat} (hp : p < 6) :
    ∃ iv' lv', call X xT (d + 5) 210 [.inr (.inr (some 46)), .inl (nI p)] (SS im lw tl, iv, lv) = some (some (.inl (growV (fM (iv 48)) cl n p)), (SS im lw tl, iv', lv')) ∧ agM iv iv' ∧ agN lv lv' := by
  obtain ⟨iv', lv', g1, g2, g3⟩ := m_tells X d im lw tl iv lv h20 (hd := 1) (by decide) hl none (some p) (by simp) (by intro m e; injection e with e; omega) (by intro _ e; cases e) (lN 1)
  refine ⟨iv', lv', ?_, g2, g3⟩
  rw [tr210]
  show bL (call X xT (d + 4) 211 [_, _, .inl (wI none), .inl (wI (some p)), _] _) _ = _
  rw [g1, bL_some, sg210_8, m_within X (d + 3), bI_some, sg210_14]
  unfold growV
  cases hv : tellN cl 1 (wd (fM (iv 48)) none (some p)) n with
  | none => rfl
  | some v => rw [Option.getD_some, nearL_fit (tell_fit hl (by decide) hv) (by decide)]
theorem m_pays (X : XE) (d : Nat) (im lw : List (Option Nat)) (tl : List XC) (iv : Nat → Nat → Int32) (lv : Nat → Nat → Int64) (h20 : iv 46 20 = nI 0) {cl : Nat → CL} {n : Nat} (hl : lawG (iv 48) cl n) {t : Nat} (ht : t < 4) :
    ∃ iv' lv', call X xT (d + 5) 220 [.inr (.inr (some 46)), .inl (nI t)] (SS im lw tl, iv, lv) = some (some (.inl (wageV (fM (iv 48)) cl n t)), (SS im lw tl, iv', lv')) ∧ agM iv iv' ∧ agN lv lv' := by
  obtain ⟨iv', lv', g1, g2, g3⟩ := m_tells X d im lw tl iv lv h20 (hd := 2) (by decide) hl (some t) none (by intro m e; injection e with e; omega) (by simp) (by intro e; cases e) (lN 5)
  refine ⟨iv', lv', ?_, g2, g3⟩
  rw [tr220]
  show bL (call X xT (d + 4) 211 [_, _, .inl (wI (some t)), .inl (wI none), _] _) _ = _
  rw [g1, bL_some, sg220_10, m_within X (d + 3), bI_some, sg220_16]
  unfold wageV
  cases hv : tellN cl 2 (wd (fM (iv 48)) (some t) none) n with
  | none => rfl
  | some v => rw [Option.getD_some, nearL_fit (tell_fit hl (by decide) hv) (by decide)]
/-- the highest that a scene's cell can be -/
def tp (j : Nat) : Nat := if j = 0 then 6 else if j = 1 then 4 else if j = 2 then 999 else if j = 3 then 10 else if j < 17 then 9 else if j < 23 then 7 else if j < 27 then 20 else if j < 31 then 99 else if j < 35 then 2 else 9
def okS (f : Nat → Int32) : Prop := ∀ j, j < 59 → ∃ m, m ≤ tp j ∧ f j = nI m
theorem okS.h {f : Nat → Int32} (h : okS f) {p : Nat} (hp : p < 6) : ∃ m, m ≤ 9 ∧ f (5 + p) = nI m := by
  obtain ⟨m, h1, h2⟩ := h (5 + p) (by omega)
  refine ⟨m, ?_, h2⟩
  unfold tp at h1
  repeat' split at h1
  all_goals omega
theorem okS.t {f : Nat → Int32} (h : okS f) {p : Nat} (hp : p < 6) : ∃ m, m ≤ 9 ∧ f (11 + p) = nI m := by
  obtain ⟨m, h1, h2⟩ := h (11 + p) (by omega)
  refine ⟨m, ?_, h2⟩
  unfold tp at h1
  repeat' split at h1
  all_goals omega
theorem okS.b {f : Nat → Int32} (h : okS f) {p : Nat} (hp : p < 6) : ∃ m, m ≤ 7 ∧ f (17 + p) = nI m := by
  obtain ⟨m, h1, h2⟩ := h (17 + p) (by omega)
  refine ⟨m, ?_, h2⟩
  unfold tp at h1
  repeat' split at h1
  all_goals omega
theorem okS.n {f : Nat → Int32} (h : okS f) {t : Nat} (ht : t < 4) : ∃ m, m ≤ 20 ∧ f (23 + t) = nI m := by
  obtain ⟨m, h1, h2⟩ := h (23 + t) (by omega)
  refine ⟨m, ?_, h2⟩
  unfold tp at h1
  repeat' split at h1
  all_goals omega
theorem okS.m {f : Nat → Int32} (h : okS f) {t : Nat} (ht : t < 4) : ∃ m, m ≤ 99 ∧ f (27 + t) = nI m := by
  obtain ⟨m, h1, h2⟩ := h (27 + t) (by omega)
  refine ⟨m, ?_, h2⟩
  unfold tp at h1
  repeat' split at h1
  all_goals omega
theorem okS.a {f : Nat → Int32} (h : okS f) {t : Nat} (ht : t < 4) : ∃ m, m ≤ 2 ∧ f (31 + t) = nI m := by
  obtain ⟨m, h1, h2⟩ := h (31 + t) (by omega)
  refine ⟨m, ?_, h2⟩
  unfold tp at h1
  repeat' split at h1
  all_goals omega
theorem okS.y {f : Nat → Int32} (h : okS f) {t p : Nat} (ht : t < 4) (hp : p < 6) : ∃ m, m ≤ 9 ∧ f (35 + (t * 6 + p)) = nI m := by
  obtain ⟨m, h1, h2⟩ := h (35 + (t * 6 + p)) (by omega)
  refine ⟨m, ?_, h2⟩
  unfold tp at h1
  repeat' split at h1
  all_goals omega
theorem okS.d {f : Nat → Int32} (h : okS f) : ∃ m, m ≤ 999 ∧ f 2 = nI m := h 2 (by omega)
theorem m_angers (X : XE) (d : Nat) (im lw : List (Option Nat)) (tl : List XC) (iv : Nat → Nat → Int32) (lv : Nat → Nat → Int64) (h20 : iv 46 20 = nI 0) {cl : Nat → CL} {n : Nat} (hl : lawG (iv 48) cl n) (hk : okS (fM (iv 48))) {t p : Nat} (ht : t < 4) (hp : p < 6) :
    ∃ iv' lv', call X xT (d + 5) 222 [.inr (.inr (some 46)), .inl (nI t), .inl (nI p)] (SS im lw tl, iv, lv) = some (some (.inl (angV (fM (iv 48)) cl n t p)), (SS im lw tl, iv', lv')) ∧ agM iv iv' ∧ agN lv lv' := by
  obtain ⟨m1, b1, e1⟩ := hk.h hp
  obtain ⟨m2, b2, e2⟩ := hk.t hp
  obtain ⟨m3, b3, e3⟩ := hk.y ht hp
  have e1' : iv 48 (8 + p) = nI m1 := by rw [← mx_h hp]; exact e1
  have e2' : iv 48 (14 + p) = nI m2 := by rw [← mx_t hp]; exact e2
  have e3' : iv 48 (34 + 6 * t + p) = nI m3 := by rw [← mx_y ht hp]; exact e3
  obtain ⟨iv', lv', g1, g2, g3⟩ := m_tells X d im lw tl iv lv h20 (hd := 0) (by decide) hl (some t) (some p) (by intro m e; injection e with e; omega) (by intro m e; injection e with e; omega) (by intro e; cases e) (nI m1 + nI m2 - nI m3).toInt64
  refine ⟨iv', lv', ?_, g2, g3⟩
  rw [tr222, nI_add, nI_add, pk_mul, nI_add, nI_add, if_pos (ib5k (by omega)), if_pos (ib5k (by omega)), if_pos (ib5k (by omega)), nI_clamp (by omega), nI_clamp (by omega), nI_clamp (by omega), e1', e2', e3']
  show bL (call X xT (d + 4) 211 [_, _, .inl (wI (some t)), .inl (wI (some p)), _] _) _ = _
  rw [g1, bL_some, sg222_44, m_within X (d + 3), bI_some, sg222_50]
  unfold angV
  cases hv : tellN cl 0 (wd (fM (iv 48)) (some t) (some p)) n with
  | none =>
    rw [Option.getD_none, near_fit _ (by decide), e1, e2, e3]
    unfold near
    have hx : (nI m1 + nI m2 - nI m3).toInt ≤ 18 ∧ -9 ≤ (nI m1 + nI m2 - nI m3).toInt := by
      rw [nI_add, Int32.toInt_sub, nI_toInt (by omega), nI_toInt (by omega), Int.bmod_def]
      omega
    generalize nI m1 + nI m2 - nI m3 = x at hx ⊢
    rw [if_pos (show x < nI 30 by rw [fb_lt, nI_toInt (by decide)]; omega)]
  | some v => rw [Option.getD_some, nearL_fit (tell_fit hl (by decide) hv) (by decide)]
theorem m_barred (X : XE) (d : Nat) (im lw : List (Option Nat)) (tl : List XC) (iv : Nat → Nat → Int32) (lv : Nat → Nat → Int64) (h20 : iv 46 20 = nI 0) {cl : Nat → CL} {n : Nat} (hl : lawG (iv 48) cl n) {t p : Nat} (ht : t < 4) (hp : p < 6) :
    ∃ iv' lv', call X xT (d + 5) 223 [.inr (.inr (some 46)), .inl (nI t), .inl (nI p)] (SS im lw tl, iv, lv) = some (some (.inl (b2i (barV (fM (iv 48)) cl n t p))), (SS im lw tl, iv', lv')) ∧ agM iv iv' ∧ agN lv lv' := by
  obtain ⟨iv', lv', g1, g2, g3⟩ := m_tells X d im lw tl iv lv h20 (hd := 3) (by decide) hl (some t) (some p) (by intro m e; injection e with e; omega) (by intro m e; injection e with e; omega) (by intro e; cases e) (lN 0)
  refine ⟨iv', lv', ?_, g2, g3⟩
  rw [tr223]
  show bL (call X xT (d + 4) 211 [_, _, .inl (wI (some t)), .inl (wI (some p)), _] _) _ = _
  rw [g1, bL_some, sg223_8]
  unfold barV
  cases hv : tellN cl 3 (wd (fM (iv 48)) (some t) (some p)) n with
  | none => rw [Option.getD_none, if_neg (by decide)]; rfl
  | some v => rw [Option.getD_some, tell_bar hl hv, if_pos (by decide)]; rfl
theorem m_loyal (X : XE) (d : Nat) (im lw : List (Option Nat)) (tl : List XC) (iv : Nat → Nat → Int32) (lv : Nat → Nat → Int64) (h20 : iv 46 20 = nI 0) {cl : Nat → CL} {n : Nat} (hl : lawG (iv 48) cl n) (hk : okS (fM (iv 48))) {t p : Nat} (ht : t < 4) (hp : p < 6) :
    ∃ iv' lv', call X xT (d + 6) 224 [.inr (.inr (some 46)), .inl (nI t), .inl (nI p)] (SS im lw tl, iv, lv) = some (some (.inl (b2i (loyV (fM (iv 48)) cl n t p))), (SS im lw tl, iv', lv')) ∧ agM iv iv' ∧ agN lv lv' := by
  obtain ⟨iv', lv', g1, g2, g3⟩ := m_angers X d im lw tl iv lv h20 hl hk ht hp
  refine ⟨iv', lv', ?_, g2, g3⟩
  have e : iv' 48 (58 + t) = fM (iv 48) (23 + t) := by rw [g2.row (by decide)]; unfold fM; rw [mx_n ht]
  rw [tr224, g1, bI_some, sg224_6, nI_add, if_pos (ib5k (by omega)), nI_clamp (by omega), e]
  unfold loyV
  by_cases h : fM (iv 48) (23 + t) < angV (fM (iv 48)) cl n t p
  · rw [if_pos h, decide_eq_false (by simpa using h)]; rfl
  · rw [if_neg h, decide_eq_true h]; rfl
theorem m_would (X : XE) (d : Nat) (im lw : List (Option Nat)) (tl : List XC) (iv : Nat → Nat → Int32) (lv : Nat → Nat → Int64) (h20 : iv 46 20 = nI 0) {cl : Nat → CL} {n : Nat} (hl : lawG (iv 48) cl n) (hk : okS (fM (iv 48))) {t p : Nat} (ht : t < 4) (hp : p < 6) :
    ∃ iv' lv', call X xT (d + 6) 225 [.inr (.inr (some 46)), .inl (nI t), .inl (nI p)] (SS im lw tl, iv, lv) = some (some (.inl (reaV (fM (iv 48)) cl n t p)), (SS im lw tl, iv', lv')) ∧ agM iv iv' ∧ agN lv lv' := by
  obtain ⟨iv', lv', g1, g2, g3⟩ := m_angers X d im lw tl iv lv h20 hl hk ht hp
  refine ⟨iv', lv', ?_, g2, g3⟩
  have e : iv' 48 (58 + t) = fM (iv 48) (23 + t) := by rw [g2.row (by decide)]; unfold fM; rw [mx_n ht]
  rw [tr225, g1, bI_some, sg225_6, nI_add, if_pos (ib5k (by omega)), nI_clamp (by omega), e]
  unfold reaV
  split
  · split <;> rfl
  · rfl
