/-- Scene.eat on a row -/
def eatF (f : Nat → Int32) (t p : Nat) : Nat → Int32 := pu (pu f (5 + p) (near (nI 9) (f (5 + p) + (-3)))) (35 + (t * 6 + p)) (near (nI 9) (f (35 + (t * 6 + p)) + nI 1))
theorem c_eat {X : XE} {d : Nat} {S : List XC} {iv : Nat → Nat → Int32} {lv : Nat → Nat → Int64} {a c : Nat} (h : scell S a c) {t p : Nat} (ht : t < 4) (hp : p < 6) : call X xT (d + 3) 123 [.inr (.inr (some a)), .inl (nI t), .inl (nI p)] (S, iv, lv) = some (none, (S, upr iv c (eatF (iv c) t p), lv)) := by
  rw [tr123, objR_ok h.1 rfl, c_change h (by omega), bV_some, sg123_10, objR_ok h.1 rfl, pk_mul, nI_add, c_change h (by omega), bV_some, sg123_25, upr_self, upr_upr, pu_n _ _ _ (show 35 + (t * 6 + p) ≠ 5 + p by omega)]
  rfl
/-- Rules.feeding on a row -/
def feedF (f : Nat → Int32) (t p : Nat) : Nat → Int32 := if f (27 + t) < nI 1 then f else eatF (pu f (27 + t) (near (nI 99) (f (27 + t) + (-1)))) t p
theorem c_feeding (X : XE) (d : Nat) (im lw : List (Option Nat)) (tl : List XC) (iv : Nat → Nat → Int32) (lv : Nat → Nat → Int64) {a c : Nat} (h : scell (SS im lw tl) a c) {t p : Nat} (ht : t < 4) (hp : p < 6) : call X xT (d + 4) 122 [.inr (.inr (some 17)), .inr (.inr (some a)), .inl (nI t), .inl (nI p)] (SS im lw tl, iv, lv) = some (none, (SS im lw tl, upr iv c (feedF (iv c) t p), lv)) := by
  rw [tr122, objR_ok h.1 rfl, c_get0 (d := d + 2) h (by omega), bI_some, sg122_7]
  unfold feedF
  by_cases hm : iv c (27 + t) < nI 1
  · rw [if_pos hm, if_pos hm, sg122_27, upr_id]
  · rw [if_neg hm, if_neg hm, objR_ok h.1 rfl, c_change (d := d + 1) h (by omega), bV_some, sg122_21, objR_ok h.1 rfl, c_eat h ht hp, bV_some, sg122_27, upr_self, upr_upr]
