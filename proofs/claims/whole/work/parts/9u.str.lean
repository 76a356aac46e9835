/-! strings of the class, and a word among them -/
def frW : List (List Nat) := [[97, 110, 103, 101, 114, 115], [104, 117, 110, 103, 101, 114, 115], [112, 97, 121, 115], [98, 97, 114, 115], [99, 114, 97, 99, 107], [102, 101, 101, 100], [109, 111, 118, 101], [112, 97, 115, 115], [97, 116], [116, 111], [116, 105, 109, 101, 115], [105, 102], [111, 114], [97, 110, 100], [110, 111, 116]]
def paW : List (List Nat) := [[116, 97, 109, 101, 114], [112, 114, 111, 118, 105, 110, 99, 101], [104, 117, 110, 103, 101, 114], [116, 101, 109, 112, 101, 114], [109, 101, 109, 111, 114, 121], [110, 101, 114, 118, 101], [109, 101, 97, 116], [116, 117, 98], [100, 97, 121], [109, 111, 111, 100], [100, 111, 110, 101], [108, 97, 116, 101, 115, 116], [97, 114, 109, 115]]
def flW (ws : List (List Nat)) : List Nat := ws.flatMap (fun W => W ++ [32])
theorem frW_s : (flW frW).map nI = xb4 := by decide +kernel
theorem paW_s : (flW paW).map nI = xb6 := by decide +kernel
theorem chr_ok : ∀ x, x < 256 → ((nI x &&& nI 255).toUInt32 % 65536).toInt32 = nI x ∧ ((nI x).toUInt32 % 65536).toInt32 = nI x := by decide +kernel
theorem tr76_1000003 (X : XE) (d : Nat) (S : List XC) (iv : Nat → Nat → Int32) (lv : Nat → Nat → Int64) : call X xT (d + 1) 76 [.inr (.inr (some 1000003))] (S, iv, lv) = alen X S (some 1000004) (fun x1 => bI (call X xT d 77 [.inr (.inr (some 1000003))] (S, iv, lv)) (fun r2 h1 => run X (call X xT d) false 1 xc76 9 [some (.inr (.inr (some 1000003)))] [.inl r2, .inl x1] h1)) := call_seg rfl (Nat.le_of_ble_eq_true rfl) (chk_pos xk76) [9] 400 rfl
theorem sg76_9_1000003 (X : XE) (cl : XCl) (S : List XC) (iv : Nat → Nat → Int32) (lv : Nat → Nat → Int64) (u0 u1 : Int32) : run X cl false 1 xc76 9 [some (.inr (.inr (some 1000003)))] [.inl u0, .inl u1] (S, iv, lv) = some (some (.inl (u1 >>> (u0 &&& 31))), (S, iv, lv)) := seg_of (chk_pos xk76) [9] 400 rfl
theorem tr77_1000003 (X : XE) (d : Nat) (S : List XC) (iv : Nat → Nat → Int32) (lv : Nat → Nat → Int64) : call X xT (d + 1) 77 [.inr (.inr (some 1000003))] (S, iv, lv) = some (some (.inl 0), (S, iv, lv)) := call_seg rfl (Nat.le_of_ble_eq_true rfl) (chk_pos xk77) [] 400 rfl
theorem tr79_1000003 (X : XE) (d : Nat) (S : List XC) (iv : Nat → Nat → Int32) (lv : Nat → Nat → Int64) : call X xT (d + 1) 79 [.inr (.inr (some 1000003))] (S, iv, lv) = some (some (.inl (nI 1)), (S, iv, lv)) := call_seg rfl (Nat.le_of_ble_eq_true rfl) (chk_pos xk79) [] 400 rfl
theorem tr78_1000003 (X : XE) (d : Nat) (S : List XC) (iv : Nat → Nat → Int32) (lv : Nat → Nat → Int64) (p0 : Int32) : call X xT (d + 1) 78 [.inr (.inr (some 1000003)), .inl p0] (S, iv, lv) = bI (call X xT d 79 [.inr (.inr (some 1000003))] (S, iv, lv)) (fun r2 h1 => run X (call X xT d) false 5 xc78 4 [some (.inr (.inr (some 1000003))), some (.inl p0)] [.inl r2] h1) := call_seg rfl (Nat.le_of_ble_eq_true rfl) (chk_pos xk78) [4, 15] 400 rfl
theorem sg78_4_1000003 (X : XE) (cl : XCl) (S : List XC) (iv : Nat → Nat → Int32) (lv : Nat → Nat → Int64) (p0 u0 : Int32) : run X cl false 5 xc78 4 [some (.inr (.inr (some 1000003))), some (.inl p0)] [.inl u0] (S, iv, lv) = if u0 = 0 then none else bI (cl 80 [.inr (.inr (some 1000004)), .inl p0] (S, iv, lv)) (fun r2 h1 => run X cl false 5 xc78 15 [some (.inr (.inr (some 1000003))), some (.inl p0)] [.inl r2] h1) := seg_of (chk_pos xk78) [4, 15] 400 rfl
theorem sg78_15_1000003 (X : XE) (cl : XCl) (S : List XC) (iv : Nat → Nat → Int32) (lv : Nat → Nat → Int64) (p0 u0 : Int32) : run X cl false 5 xc78 15 [some (.inr (.inr (some 1000003))), some (.inl p0)] [.inl u0] (S, iv, lv) = if (u0.toUInt32 % 65536).toInt32 = u0 then some (some (.inl u0), (S, iv, lv)) else none := seg_of (chk_pos xk78) [4, 15] 400 rfl
theorem sg75_9_1000003 (X : XE) (cl : XCl) (im lw : List (Option Nat)) (tl : List XC) (iv : Nat → Nat → Int32) (lv : Nat → Nat → Int64) (v2 v3 v4 v5 v6 : Int32) (w7 : Option XV) : run X cl false 1 xc75 9 [some (.inr (.inr (some 9))), some (.inr (.inr (some 1000003))), some (.inl v2), some (.inl v3), some (.inl v4), some (.inl v5), some (.inl v6), w7] [] (SS im lw tl, iv, lv) = bI (cl 76 [.inr (.inr (some 1000003))] (SS im lw tl, iv, lv)) (fun r2 h1 => run X cl false 1 xc75 15 [some (.inr (.inr (some 9))), some (.inr (.inr (some 1000003))), some (.inl v2), some (.inl v3), some (.inl v4), some (.inl v5), some (.inl v6), w7] [.inl r2, .inl v6] h1) := seg_of (chk_pos xk75) [9, 15, 24, 67] 400 rfl
theorem sg75_15_1000003 (X : XE) (cl : XCl) (im lw : List (Option Nat)) (tl : List XC) (iv : Nat → Nat → Int32) (lv : Nat → Nat → Int64) (v2 v3 v4 v5 v6 : Int32) (w7 : Option XV) (u0 u1 : Int32) : run X cl false 1 xc75 15 [some (.inr (.inr (some 9))), some (.inr (.inr (some 1000003))), some (.inl v2), some (.inl v3), some (.inl v4), some (.inl v5), some (.inl v6), w7] [.inl u0, .inl u1] (SS im lw tl, iv, lv) = if u0 ≤ u1 then some (some (.inl (-1)), (SS im lw tl, iv, lv)) else bI (cl 78 [.inr (.inr (some 1000003)), .inl v6] (SS im lw tl, iv, lv)) (fun r2 h1 => run X cl false 1 xc75 24 [some (.inr (.inr (some 9))), some (.inr (.inr (some 1000003))), some (.inl v2), some (.inl v3), some (.inl v4), some (.inl v5), some (.inl v6), w7] [.inl r2] h1) := seg_of (chk_pos xk75) [9, 15, 24, 67] 400 rfl
theorem tr76_1000005 (X : XE) (d : Nat) (S : List XC) (iv : Nat → Nat → Int32) (lv : Nat → Nat → Int64) : call X xT (d + 1) 76 [.inr (.inr (some 1000005))] (S, iv, lv) = alen X S (some 1000006) (fun x1 => bI (call X xT d 77 [.inr (.inr (some 1000005))] (S, iv, lv)) (fun r2 h1 => run X (call X xT d) false 1 xc76 9 [some (.inr (.inr (some 1000005)))] [.inl r2, .inl x1] h1)) := call_seg rfl (Nat.le_of_ble_eq_true rfl) (chk_pos xk76) [9] 400 rfl
theorem sg76_9_1000005 (X : XE) (cl : XCl) (S : List XC) (iv : Nat → Nat → Int32) (lv : Nat → Nat → Int64) (u0 u1 : Int32) : run X cl false 1 xc76 9 [some (.inr (.inr (some 1000005)))] [.inl u0, .inl u1] (S, iv, lv) = some (some (.inl (u1 >>> (u0 &&& 31))), (S, iv, lv)) := seg_of (chk_pos xk76) [9] 400 rfl
theorem tr77_1000005 (X : XE) (d : Nat) (S : List XC) (iv : Nat → Nat → Int32) (lv : Nat → Nat → Int64) : call X xT (d + 1) 77 [.inr (.inr (some 1000005))] (S, iv, lv) = some (some (.inl 0), (S, iv, lv)) := call_seg rfl (Nat.le_of_ble_eq_true rfl) (chk_pos xk77) [] 400 rfl
theorem tr79_1000005 (X : XE) (d : Nat) (S : List XC) (iv : Nat → Nat → Int32) (lv : Nat → Nat → Int64) : call X xT (d + 1) 79 [.inr (.inr (some 1000005))] (S, iv, lv) = some (some (.inl (nI 1)), (S, iv, lv)) := call_seg rfl (Nat.le_of_ble_eq_true rfl) (chk_pos xk79) [] 400 rfl
theorem tr78_1000005 (X : XE) (d : Nat) (S : List XC) (iv : Nat → Nat → Int32) (lv : Nat → Nat → Int64) (p0 : Int32) : call X xT (d + 1) 78 [.inr (.inr (some 1000005)), .inl p0] (S, iv, lv) = bI (call X xT d 79 [.inr (.inr (some 1000005))] (S, iv, lv)) (fun r2 h1 => run X (call X xT d) false 5 xc78 4 [some (.inr (.inr (some 1000005))), some (.inl p0)] [.inl r2] h1) := call_seg rfl (Nat.le_of_ble_eq_true rfl) (chk_pos xk78) [4, 15] 400 rfl
theorem sg78_4_1000005 (X : XE) (cl : XCl) (S : List XC) (iv : Nat → Nat → Int32) (lv : Nat → Nat → Int64) (p0 u0 : Int32) : run X cl false 5 xc78 4 [some (.inr (.inr (some 1000005))), some (.inl p0)] [.inl u0] (S, iv, lv) = if u0 = 0 then none else bI (cl 80 [.inr (.inr (some 1000006)), .inl p0] (S, iv, lv)) (fun r2 h1 => run X cl false 5 xc78 15 [some (.inr (.inr (some 1000005))), some (.inl p0)] [.inl r2] h1) := seg_of (chk_pos xk78) [4, 15] 400 rfl
theorem sg78_15_1000005 (X : XE) (cl : XCl) (S : List XC) (iv : Nat → Nat → Int32) (lv : Nat → Nat → Int64) (p0 u0 : Int32) : run X cl false 5 xc78 15 [some (.inr (.inr (some 1000005))), some (.inl p0)] [.inl u0] (S, iv, lv) = if (u0.toUInt32 % 65536).toInt32 = u0 then some (some (.inl u0), (S, iv, lv)) else none := seg_of (chk_pos xk78) [4, 15] 400 rfl
theorem sg75_9_1000005 (X : XE) (cl : XCl) (im lw : List (Option Nat)) (tl : List XC) (iv : Nat → Nat → Int32) (lv : Nat → Nat → Int64) (v2 v3 v4 v5 v6 : Int32) (w7 : Option XV) : run X cl false 1 xc75 9 [some (.inr (.inr (some 9))), some (.inr (.inr (some 1000005))), some (.inl v2), some (.inl v3), some (.inl v4), some (.inl v5), some (.inl v6), w7] [] (SS im lw tl, iv, lv) = bI (cl 76 [.inr (.inr (some 1000005))] (SS im lw tl, iv, lv)) (fun r2 h1 => run X cl false 1 xc75 15 [some (.inr (.inr (some 9))), some (.inr (.inr (some 1000005))), some (.inl v2), some (.inl v3), some (.inl v4), some (.inl v5), some (.inl v6), w7] [.inl r2, .inl v6] h1) := seg_of (chk_pos xk75) [9, 15, 24, 67] 400 rfl
theorem sg75_15_1000005 (X : XE) (cl : XCl) (im lw : List (Option Nat)) (tl : List XC) (iv : Nat → Nat → Int32) (lv : Nat → Nat → Int64) (v2 v3 v4 v5 v6 : Int32) (w7 : Option XV) (u0 u1 : Int32) : run X cl false 1 xc75 15 [some (.inr (.inr (some 9))), some (.inr (.inr (some 1000005))), some (.inl v2), some (.inl v3), some (.inl v4), some (.inl v5), some (.inl v6), w7] [.inl u0, .inl u1] (SS im lw tl, iv, lv) = if u0 ≤ u1 then some (some (.inl (-1)), (SS im lw tl, iv, lv)) else bI (cl 78 [.inr (.inr (some 1000005)), .inl v6] (SS im lw tl, iv, lv)) (fun r2 h1 => run X cl false 1 xc75 24 [some (.inr (.inr (some 9))), some (.inr (.inr (some 1000005))), some (.inl v2), some (.inl v3), some (.inl v4), some (.inl v5), some (.inl v6), w7] [.inl r2] h1) := seg_of (chk_pos xk75) [9, 15, 24, 67] 400 rfl
theorem tr82s (X : XE) (d : Nat) (S : List XC) (iv : Nat → Nat → Int32) (lv : Nat → Nat → Int64) (p0 p1 : Int32) : call X xT (d + 1) 82 [.inl p0, .inl p1, .inr (.inr (some 1000007))] (S, iv, lv) = if p0 < 0 then none else if p0 < p1 then some (some (.inl p0), (S, iv, lv)) else none := call_seg rfl (Nat.le_of_ble_eq_true rfl) (chk_pos xk82) [] 400 rfl
theorem c_len_1000003 (X : XE) (hX : XOK X) (d : Nat) (im lw : List (Option Nat)) (tl : List XC) (iv : Nat → Nat → Int32) (lv : Nat → Nat → Int64) : call X xT (d + 2) 76 [.inr (.inr (some 1000003))] (SS im lw tl, iv, lv) = some (some (.inl (nI (flW frW).length)), (SS im lw tl, iv, lv)) := by
  obtain ⟨L, xs, rfl⟩ := hX
  rw [tr76_1000003]
  show bI (call _ xT (d + 1) 77 _ _) _ = _
  rw [tr77_1000003, bI_some, sg76_9_1000003]
  rfl
theorem c_chr_1000003 (X : XE) (hX : XOK X) (d : Nat) (im lw : List (Option Nat)) (tl : List XC) (iv : Nat → Nat → Int32) (lv : Nat → Nat → Int64) {i x : Nat} (hi : (flW frW)[i]? = some x) : call X xT (d + 4) 78 [.inr (.inr (some 1000003)), .inl (nI i)] (SS im lw tl, iv, lv) = some (some (.inl (nI x)), (SS im lw tl, iv, lv)) := by
  have hl : i < 72 := by
    have := (List.getElem?_eq_some_iff.mp hi).1
    have e : (flW frW).length = 72 := by decide +kernel
    omega
  have hx : x < 256 := by
    have h2 : ∀ y, y ∈ flW frW → y < 256 := by decide +kernel
    exact h2 x (List.mem_of_getElem? hi)
  have hb : xb4.getD i 0 = nI x := by
    rw [← frW_s, List.getD_eq_getElem?_getD, List.getElem?_map, hi]; rfl
  obtain ⟨L, xs, rfl⟩ := hX
  rw [tr78_1000003, tr79_1000003, bI_some, sg78_4_1000003, if_neg n1z, tr80]
  show bI (bV (call _ xT (d + 2) 81 [.inl (nI i), .inl (nI 72)] _) _) _ = _
  rw [tr81, tr82s, if_neg (nI_pos (by omega)), if_pos (nI_lt hl (by omega)), bI_some, sg81_8, bV_some, sg80_6]
  show bI (if inb (nI i) 72 = true then _ else none) _ = _
  rw [if_pos (inb_nI hl (by omega)), nI_clamp (by omega)]
  rw [show (((72, fun i => xb4.getD i 0) : Nat × (Nat → Int32)).2 i) = nI x from hb, (chr_ok x hx).1, (chr_ok x hx).2, if_pos rfl, bI_some, sg78_15_1000003, (chr_ok x hx).2, if_pos rfl]
theorem c_len_1000005 (X : XE) (hX : XOK X) (d : Nat) (im lw : List (Option Nat)) (tl : List XC) (iv : Nat → Nat → Int32) (lv : Nat → Nat → Int64) : call X xT (d + 2) 76 [.inr (.inr (some 1000005))] (SS im lw tl, iv, lv) = some (some (.inl (nI (flW paW).length)), (SS im lw tl, iv, lv)) := by
  obtain ⟨L, xs, rfl⟩ := hX
  rw [tr76_1000005]
  show bI (call _ xT (d + 1) 77 _ _) _ = _
  rw [tr77_1000005, bI_some, sg76_9_1000005]
  rfl
theorem c_chr_1000005 (X : XE) (hX : XOK X) (d : Nat) (im lw : List (Option Nat)) (tl : List XC) (iv : Nat → Nat → Int32) (lv : Nat → Nat → Int64) {i x : Nat} (hi : (flW paW)[i]? = some x) : call X xT (d + 4) 78 [.inr (.inr (some 1000005)), .inl (nI i)] (SS im lw tl, iv, lv) = some (some (.inl (nI x)), (SS im lw tl, iv, lv)) := by
  have hl : i < 77 := by
    have := (List.getElem?_eq_some_iff.mp hi).1
    have e : (flW paW).length = 77 := by decide +kernel
    omega
  have hx : x < 256 := by
    have h2 : ∀ y, y ∈ flW paW → y < 256 := by decide +kernel
    exact h2 x (List.mem_of_getElem? hi)
  have hb : xb6.getD i 0 = nI x := by
    rw [← paW_s, List.getD_eq_getElem?_getD, List.getElem?_map, hi]; rfl
  obtain ⟨L, xs, rfl⟩ := hX
  rw [tr78_1000005, tr79_1000005, bI_some, sg78_4_1000005, if_neg n1z, tr80]
  show bI (bV (call _ xT (d + 2) 81 [.inl (nI i), .inl (nI 77)] _) _) _ = _
  rw [tr81, tr82s, if_neg (nI_pos (by omega)), if_pos (nI_lt hl (by omega)), bI_some, sg81_8, bV_some, sg80_6]
  show bI (if inb (nI i) 77 = true then _ else none) _ = _
  rw [if_pos (inb_nI hl (by omega)), nI_clamp (by omega)]
  rw [show (((77, fun i => xb6.getD i 0) : Nat × (Nat → Int32)).2 i) = nI x from hb, (chr_ok x hx).1, (chr_ok x hx).2, if_pos rfl, bI_some, sg78_15_1000005, (chr_ok x hx).2, if_pos rfl]
