/-- Scene.react on a row; n provinces -/
def reactF (f : Nat → Int32) (n : Nat) (did : Int32) (t p : Nat) : Nat → Int32 :=
  if did = nI 2 then stirF (-1) (f (17 + p)) n 0 (pu f (5 + p) (near (nI 9) (f (5 + p) + nI 1)))
  else if did = nI 1 then stirF (nI 1) (f (17 + p)) n 0 (pu f (11 + p) (near (nI 9) (f (11 + p) + nI 1)))
  else pu (pu f (31 + t) (near (nI 2) (f (31 + t) + (-1)))) (5 + p) (near (nI 9) (f (5 + p) + (-2)))
theorem c_reactF {X : XE} {d : Nat} {S : List XC} {iv : Nat → Nat → Int32} {lv : Nat → Nat → Int64} {a c : Nat} (h : scell S a c) {n t p : Nat} (hn : n ≤ 6) (ht : t < 4) (hp : p < 6) (h0 : iv c 0 = nI n) (did : Int32) : call X xT (d + 4) 127 [.inr (.inr (some a)), .inl did, .inl (nI t), .inl (nI p)] (S, iv, lv) = some (none, (S, upr iv c (reactF (iv c) n did t p), lv)) := by
  rw [tr127]
  unfold reactF
  by_cases h2 : did = nI 2
  · rw [if_pos h2, if_pos h2, objR_ok h.1 rfl, c_change (d := d + 1) h (by omega), bV_some, sg127_14, objR_ok h.1 rfl, c_stir h hn hp (by rw [upr_self, pu_n _ _ _ (by omega)]; exact h0), bV_some, sg127_20, sg127_66, upr_self, upr_upr, pu_n _ _ _ (show 17 + p ≠ 5 + p by omega)]
  · rw [if_neg h2, if_neg h2]
    by_cases h1 : did = nI 1
    · rw [if_pos h1, if_pos h1, objR_ok h.1 rfl, c_change (d := d + 1) h (by omega), bV_some, sg127_38, objR_ok h.1 rfl, c_stir h hn hp (by rw [upr_self, pu_n _ _ _ (by omega)]; exact h0), bV_some, sg127_44, sg127_66, upr_self, upr_upr, pu_n _ _ _ (show 17 + p ≠ 11 + p by omega)]
    · rw [if_neg h1, if_neg h1, objR_ok h.1 rfl, c_change (d := d + 1) h (by omega), bV_some, sg127_56, objR_ok h.1 rfl, c_change (d := d + 1) h (by omega), bV_some, sg127_66, upr_self, upr_upr, pu_n _ _ _ (show 5 + p ≠ 31 + t by omega)]
