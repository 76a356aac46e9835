/-! tokens of a text: b its bytes, n its length -/
def kd (x : Nat) : Nat := if x = 32 then 0 else if 97 ≤ x ∧ x ≤ 122 then 1 else if 48 ≤ x ∧ x ≤ 57 then 2 else 3
def rn (b : Nat → Nat) (n k : Nat) : Nat → Nat → Nat
  | 0, p => p
  | f + 1, p => if p < n ∧ kd (b p) = k then rn b n k f (p + 1) else p
/-- the end of a run of one kind -/
def rnE (b : Nat → Nat) (n k p : Nat) : Nat := rn b n k (n - p) p
theorem rnE_s (b : Nat → Nat) (n k p : Nat) : rnE b n k p = if p < n ∧ kd (b p) = k then rnE b n k (p + 1) else p := by
  unfold rnE
  by_cases h : p < n
  · obtain ⟨m, hm⟩ : ∃ m, n - p = m + 1 := ⟨n - p - 1, by omega⟩
    rw [hm, show n - (p + 1) = m by omega]
    rfl
  · rw [if_neg (by omega), show n - p = 0 by omega]
    rfl
theorem rnE_ok (b : Nat → Nat) (n k : Nat) : ∀ (m p : Nat), n - p ≤ m → p ≤ rnE b n k p ∧ (p ≤ n → rnE b n k p ≤ n) ∧ (∀ j, p ≤ j → j < rnE b n k p → kd (b j) = k) ∧ (rnE b n k p < n → kd (b (rnE b n k p)) ≠ k) := by
  intro m
  induction m with
  | zero =>
    intro p hp
    rw [rnE_s, if_neg (by omega)]
    exact ⟨Nat.le_refl _, fun h => h, fun j h1 h2 => by omega, fun h => by omega⟩
  | succ m ih =>
    intro p hp
    rw [rnE_s]
    by_cases h : p < n ∧ kd (b p) = k
    · rw [if_pos h]
      obtain ⟨a1, a2, a3, a4⟩ := ih (p + 1) (by omega)
      refine ⟨by omega, fun _ => a2 (by omega), fun j h1 h2 => ?_, a4⟩
      by_cases e : j = p
      · rw [e]; exact h.2
      · exact a3 j (by omega) h2
    · rw [if_neg h]
      exact ⟨Nat.le_refl _, fun h => h, fun j h1 h2 => by omega, fun h2 e => h ⟨h2, e⟩⟩
def sk (b : Nat → Nat) (n p : Nat) : Nat := rnE b n 0 p
def enT (b : Nat → Nat) (n p : Nat) : Nat := if kd (b p) = 3 then p + 1 else rnE b n (kd (b p)) (p + 1)
def plF (b : Nat → Nat) (n : Nat) : Nat → Nat
  | 0 => sk b n 0
  | i + 1 => if plF b n i < n then sk b n (enT b n (plF b n i)) else n
theorem sk_ge (b : Nat → Nat) (n p : Nat) : p ≤ sk b n p := (rnE_ok b n 0 (n - p) p (Nat.le_refl _)).1
theorem sk_le (b : Nat → Nat) {n p : Nat} (h : p ≤ n) : sk b n p ≤ n := (rnE_ok b n 0 (n - p) p (Nat.le_refl _)).2.1 h
theorem sk_kd (b : Nat → Nat) {n p : Nat} (h : sk b n p < n) : kd (b (sk b n p)) ≠ 0 := (rnE_ok b n 0 (n - p) p (Nat.le_refl _)).2.2.2 h
theorem sk_id (b : Nat → Nat) {n p : Nat} (h : kd (b p) ≠ 0 ∨ n ≤ p) : sk b n p = p := by
  unfold sk
  rw [rnE_s, if_neg (by rcases h with h | h <;> omega)]
theorem sk_sk (b : Nat → Nat) (n p : Nat) : sk b n (sk b n p) = sk b n p := by
  refine sk_id b ?_
  rcases Nat.lt_or_ge (sk b n p) n with h | h
  · exact Or.inl (sk_kd b h)
  · exact Or.inr h
theorem enT_gt (b : Nat → Nat) (n p : Nat) : p < enT b n p := by
  unfold enT
  split
  · omega
  · have := (rnE_ok b n (kd (b p)) (n - (p + 1)) (p + 1) (Nat.le_refl _)).1; omega
theorem enT_le (b : Nat → Nat) {n p : Nat} (h : p < n) : enT b n p ≤ n := by
  unfold enT
  split
  · omega
  · exact (rnE_ok b n (kd (b p)) (n - (p + 1)) (p + 1) (Nat.le_refl _)).2.1 (by omega)
theorem plF_le (b : Nat → Nat) (n : Nat) : ∀ i, plF b n i ≤ n := by
  intro i
  cases i with
  | zero => exact sk_le b (Nat.zero_le _)
  | succ i =>
    unfold plF
    split
    · rename_i h; exact sk_le b (enT_le b h)
    · exact Nat.le_refl _
theorem plF_kd (b : Nat → Nat) (n : Nat) : ∀ i, plF b n i < n → kd (b (plF b n i)) ≠ 0 := by
  intro i
  cases i with
  | zero => intro h; exact sk_kd b h
  | succ i =>
    intro h
    unfold plF at h ⊢
    split
    · rename_i h2; rw [if_pos h2] at h; exact sk_kd b h
    · rename_i h2; rw [if_neg h2] at h; omega
theorem plF_ge (b : Nat → Nat) (n : Nat) : ∀ i, plF b n i < n → i ≤ plF b n i := by
  intro i
  induction i with
  | zero => intro _; exact Nat.zero_le _
  | succ i ih =>
    intro h
    unfold plF at h ⊢
    by_cases h2 : plF b n i < n
    · rw [if_pos h2]
      have := ih h2
      have := enT_gt b n (plF b n i)
      have := sk_ge b n (enT b n (plF b n i))
      omega
    · rw [if_neg h2] at h; omega
theorem plF_up (b : Nat → Nat) (n : Nat) : ∀ i, plF b n i = n → plF b n (i + 1) = n := by
  intro i h
  show (if plF b n i < n then _ else n) = n
  rw [if_neg (by omega)]
def ntA (b : Nat → Nat) (n : Nat) : Nat → Nat → Nat
  | 0, i => i
  | f + 1, i => if plF b n i < n then ntA b n f (i + 1) else i
/-- how many tokens -/
def ntF (b : Nat → Nat) (n : Nat) : Nat := ntA b n (n + 1) 0
theorem ntA_ok (b : Nat → Nat) (n : Nat) : ∀ f i, n < i + f → (∀ j, j < i → plF b n j < n) → plF b n (ntA b n f i) = n ∧ ∀ j, j < ntA b n f i → plF b n j < n := by
  intro f
  induction f with
  | zero =>
    intro i h1 h2
    exfalso
    have := h2 (i - 1) (by omega)
    have := plF_ge b n (i - 1) this
    omega
  | succ f ih =>
    intro i h1 h2
    unfold ntA
    by_cases e : plF b n i < n
    · rw [if_pos e]
      exact ih (i + 1) (by omega) (fun j hj => by
        by_cases q : j = i
        · rw [q]; exact e
        · exact h2 j (by omega))
    · rw [if_neg e]
      exact ⟨by have := plF_le b n i; omega, h2⟩
theorem ntF_ok (b : Nat → Nat) (n : Nat) : plF b n (ntF b n) = n ∧ (∀ j, j < ntF b n → plF b n j < n) ∧ ntF b n ≤ n := by
  obtain ⟨h1, h2⟩ := ntA_ok b n (n + 1) 0 (by omega) (fun j hj => by omega)
  refine ⟨h1, h2, ?_⟩
  show ntA b n (n + 1) 0 ≤ n
  rcases Nat.lt_or_ge n (ntA b n (n + 1) 0) with h | h
  · have h3 := h2 n h
    have := plF_ge b n n h3
    omega
  · exact h
theorem ntF_is {b : Nat → Nat} {n i : Nat} (h1 : plF b n i = n) (h2 : ∀ j, j < i → plF b n j < n) : ntF b n = i := by
  obtain ⟨a1, a2, a3⟩ := ntF_ok b n
  rcases Nat.lt_trichotomy (ntF b n) i with h | h | h
  · have := h2 _ h; omega
  · exact h
  · have := a2 _ h; omega
/-- a number's value -/
def vl (b : Nat → Nat) : Nat → Nat → Nat → Nat
  | 0, _, v => v
  | k + 1, p, v => vl b k (p + 1) (v * 10 + (b p - 48))
theorem vl_ge (b : Nat → Nat) : ∀ k p v, v ≤ vl b k p v := by
  intro k
  induction k with
  | zero => intro p v; exact Nat.le_refl _
  | succ k ih =>
    intro p v
    have := ih (p + 1) (v * 10 + (b p - 48))
    show v ≤ vl b k (p + 1) (v * 10 + (b p - 48))
    omega
def lxm (b : Nat → Nat) (p e : Nat) : List Nat := (List.range (e - p)).map (fun j => b (p + j))
def wix (ws : List (List Nat)) (l : List Nat) : Option Nat := ws.findIdx? (fun W => decide (W = l))
def wcd (l : List Nat) : Nat := match wix frW l with
  | some j => 2000 + j
  | none => match wix paW l with
    | some j => 3000 + j
    | none => 4000
def tkP (b : Nat → Nat) (n p : Nat) : Nat := if kd (b p) = 3 then b p else if kd (b p) = 2 then 256 + min (vl b (enT b n p - p) p 0) 1001 else wcd (lxm b p (enT b n p))
def tkF (b : Nat → Nat) (n i : Nat) : Nat := if plF b n i < n then tkP b n (plF b n i) else 9999
theorem wix_lt {ws : List (List Nat)} {l : List Nat} {j : Nat} (h : wix ws l = some j) : j < ws.length := by
  unfold wix at h
  exact (List.findIdx?_eq_some_iff_getElem.mp h).1
theorem wcd_le (l : List Nat) : 2000 ≤ wcd l ∧ wcd l ≤ 4000 := by
  unfold wcd
  split
  · rename_i j h; have := wix_lt h; have : frW.length = 15 := rfl; omega
  · split
    · rename_i j h; have := wix_lt h; have : paW.length = 13 := rfl; omega
    · omega
theorem tkP_le {b : Nat → Nat} (hb : ∀ j, b j < 256) (n p : Nat) : tkP b n p ≤ 4000 := by
  unfold tkP
  split
  · have := hb p; omega
  · split
    · omega
    · exact (wcd_le _).2
theorem tkF_lt {b : Nat → Nat} (hb : ∀ j, b j < 256) {n i : Nat} (h : i < ntF b n) : tkF b n i ≤ 4000 := by
  unfold tkF
  rw [if_pos ((ntF_ok b n).2.1 i h)]
  exact tkP_le hb n _
theorem tkF_end (b : Nat → Nat) (n : Nat) : tkF b n (ntF b n) = 9999 := by
  unfold tkF
  rw [if_neg (by have := (ntF_ok b n).1; omega)]
theorem enT_kd {b : Nat → Nat} {n p : Nat} (h3 : kd (b p) ≠ 3) : (∀ j, p ≤ j → j < enT b n p → kd (b j) = kd (b p)) ∧ (enT b n p < n → kd (b (enT b n p)) ≠ kd (b p)) := by
  unfold enT
  rw [if_neg h3]
  obtain ⟨a1, a2, a3, a4⟩ := rnE_ok b n (kd (b p)) (n - (p + 1)) (p + 1) (Nat.le_refl _)
  refine ⟨fun j h1 h2 => ?_, a4⟩
  by_cases e : j = p
  · rw [e]
  · exact a3 j (by omega) h2
theorem kd_1 {x : Nat} (h : kd x = 1) : 97 ≤ x ∧ x ≤ 122 := by
  unfold kd at h
  repeat' split at h
  all_goals first
    | assumption
    | omega
theorem kd_2 {x : Nat} (h : kd x = 2) : 48 ≤ x ∧ x ≤ 57 := by
  unfold kd at h
  repeat' split at h
  all_goals first
    | assumption
    | omega
theorem kd_le (x : Nat) : kd x ≤ 3 := by
  unfold kd
  repeat' split
  all_goals omega
