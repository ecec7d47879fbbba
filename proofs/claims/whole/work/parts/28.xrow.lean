/-! THE CLASS'S FIXED CELLS: a row each -/
theorem xR_firms {S : St} {xb : Nat} (h : XOK S xb) : getR S (some xb) 12 1 = some (some (xb + 1)) := by rw [getR_s (h := h.1)]; exact congrArg some (h.2 (0, 1, 1, 0, 0) (by decide)).1
theorem xM_firms {S : St} {xb : Nat} (h : XOK S xb) : mr S xb 1 = some (xb + 1) := (h.2 (0, 1, 1, 0, 0) (by decide)).1
theorem xK_firms {S : St} {xb : Nat} (h : XOK S xb) : kd S (xb + 1) = 0 := (h.2 (0, 1, 1, 0, 0) (by decide)).2.1
theorem xV_firms {S : St} {xb : Nat} (h : XOK S xb) : rcv S (some (xb + 1)) 0 = some (xb + 1) := rcv_s (xK_firms h)
theorem xR_persons {S : St} {xb : Nat} (h : XOK S xb) : getR S (some xb) 12 2 = some (some (xb + 2)) := by rw [getR_s (h := h.1)]; exact congrArg some (h.2 (0, 2, 2, 0, 0) (by decide)).1
theorem xM_persons {S : St} {xb : Nat} (h : XOK S xb) : mr S xb 2 = some (xb + 2) := (h.2 (0, 2, 2, 0, 0) (by decide)).1
theorem xK_persons {S : St} {xb : Nat} (h : XOK S xb) : kd S (xb + 2) = 0 := (h.2 (0, 2, 2, 0, 0) (by decide)).2.1
theorem xV_persons {S : St} {xb : Nat} (h : XOK S xb) : rcv S (some (xb + 2)) 0 = some (xb + 2) := rcv_s (xK_persons h)
theorem xR_accounts {S : St} {xb : Nat} (h : XOK S xb) : getR S (some xb) 12 3 = some (some (xb + 3)) := by rw [getR_s (h := h.1)]; exact congrArg some (h.2 (0, 3, 3, 0, 0) (by decide)).1
theorem xM_accounts {S : St} {xb : Nat} (h : XOK S xb) : mr S xb 3 = some (xb + 3) := (h.2 (0, 3, 3, 0, 0) (by decide)).1
theorem xK_accounts {S : St} {xb : Nat} (h : XOK S xb) : kd S (xb + 3) = 0 := (h.2 (0, 3, 3, 0, 0) (by decide)).2.1
theorem xV_accounts {S : St} {xb : Nat} (h : XOK S xb) : rcv S (some (xb + 3)) 0 = some (xb + 3) := rcv_s (xK_accounts h)
theorem xR_claims {S : St} {xb : Nat} (h : XOK S xb) : getR S (some xb) 12 4 = some (some (xb + 4)) := by rw [getR_s (h := h.1)]; exact congrArg some (h.2 (0, 4, 4, 0, 0) (by decide)).1
theorem xM_claims {S : St} {xb : Nat} (h : XOK S xb) : mr S xb 4 = some (xb + 4) := (h.2 (0, 4, 4, 0, 0) (by decide)).1
theorem xK_claims {S : St} {xb : Nat} (h : XOK S xb) : kd S (xb + 4) = 0 := (h.2 (0, 4, 4, 0, 0) (by decide)).2.1
theorem xV_claims {S : St} {xb : Nat} (h : XOK S xb) : rcv S (some (xb + 4)) 0 = some (xb + 4) := rcv_s (xK_claims h)
theorem xR_tape {S : St} {xb : Nat} (h : XOK S xb) : getR S (some xb) 12 6 = some (some (xb + 5)) := by rw [getR_s (h := h.1)]; exact congrArg some (h.2 (0, 6, 5, 14, 600) (by decide)).1
theorem xM_tape {S : St} {xb : Nat} (h : XOK S xb) : mr S xb 6 = some (xb + 5) := (h.2 (0, 6, 5, 14, 600) (by decide)).1
theorem xK_tape {S : St} {xb : Nat} (h : XOK S xb) : kd S (xb + 5) = 14 := (h.2 (0, 6, 5, 14, 600) (by decide)).2.1
theorem xN_tape {S : St} {xb : Nat} (h : XOK S xb) : ln S (xb + 5) = 600 := (h.2 (0, 6, 5, 14, 600) (by decide)).2.2
theorem xZ_tape {S : St} {xb : Nat} (h : XOK S xb) : alen S (some (xb + 5)) = some 600 := alen_s (by rw [xK_tape h]; omega) (xN_tape h)
theorem xL_tape {S : St} {xb j : Nat} (h : XOK S xb) (hj : j < 600) : ldI S (some (xb + 5)) 14 (nI j) = some (mi S (xb + 5) j) := ldI_s (xK_tape h) (xN_tape h) hj (by decide)
theorem xS_tape {S : St} {xb j : Nat} (h : XOK S xb) (hj : j < 600) (v : Int32) : stI S (some (xb + 5)) 14 (nI j) v = some (setI S (xb + 5) j (nrw 14 v)) := stI_s (xK_tape h) (xN_tape h) hj (by decide) v
theorem xR_plain {S : St} {xb : Nat} (h : XOK S xb) : getR S (some xb) 12 8 = some (some (xb + 6)) := by rw [getR_s (h := h.1)]; exact congrArg some (h.2 (0, 8, 6, 7, 0) (by decide)).1
theorem xM_plain {S : St} {xb : Nat} (h : XOK S xb) : mr S xb 8 = some (xb + 6) := (h.2 (0, 8, 6, 7, 0) (by decide)).1
theorem xK_plain {S : St} {xb : Nat} (h : XOK S xb) : kd S (xb + 6) = 7 := (h.2 (0, 8, 6, 7, 0) (by decide)).2.1
theorem xV_plain {S : St} {xb : Nat} (h : XOK S xb) : rcv S (some (xb + 6)) 7 = some (xb + 6) := rcv_s (xK_plain h)
theorem xR_laws {S : St} {xb : Nat} (h : XOK S xb) : getR S (some xb) 12 9 = some (some (xb + 9)) := by rw [getR_s (h := h.1)]; exact congrArg some (h.2 (0, 9, 9, 18, 4) (by decide)).1
theorem xM_laws {S : St} {xb : Nat} (h : XOK S xb) : mr S xb 9 = some (xb + 9) := (h.2 (0, 9, 9, 18, 4) (by decide)).1
theorem xK_laws {S : St} {xb : Nat} (h : XOK S xb) : kd S (xb + 9) = 18 := (h.2 (0, 9, 9, 18, 4) (by decide)).2.1
theorem xN_laws {S : St} {xb : Nat} (h : XOK S xb) : ln S (xb + 9) = 4 := (h.2 (0, 9, 9, 18, 4) (by decide)).2.2
theorem xZ_laws {S : St} {xb : Nat} (h : XOK S xb) : alen S (some (xb + 9)) = some 4 := alen_s (by rw [xK_laws h]; omega) (xN_laws h)
theorem xL_laws {S : St} {xb j : Nat} (h : XOK S xb) (hj : j < 4) : ldR S (some (xb + 9)) 18 (nI j) = some (mr S (xb + 9) j) := ldR_s (xK_laws h) (xN_laws h) hj (by decide)
theorem xR_scale {S : St} {xb : Nat} (h : XOK S xb) : getR S (some xb) 12 12 = some (some (xb + 10)) := by rw [getR_s (h := h.1)]; exact congrArg some (h.2 (0, 12, 10, 10, 0) (by decide)).1
theorem xM_scale {S : St} {xb : Nat} (h : XOK S xb) : mr S xb 12 = some (xb + 10) := (h.2 (0, 12, 10, 10, 0) (by decide)).1
theorem xK_scale {S : St} {xb : Nat} (h : XOK S xb) : kd S (xb + 10) = 10 := (h.2 (0, 12, 10, 10, 0) (by decide)).2.1
theorem xV_scale {S : St} {xb : Nat} (h : XOK S xb) : rcv S (some (xb + 10)) 10 = some (xb + 10) := rcv_s (xK_scale h)
theorem xR_stack {S : St} {xb : Nat} (h : XOK S xb) : getR S (some (xb + 10)) 10 4 = some (some (xb + 11)) := by rw [getR_s (h := xK_scale h)]; exact congrArg some (h.2 (10, 4, 11, 15, 32) (by decide)).1
theorem xM_stack {S : St} {xb : Nat} (h : XOK S xb) : mr S (xb + 10) 4 = some (xb + 11) := (h.2 (10, 4, 11, 15, 32) (by decide)).1
theorem xK_stack {S : St} {xb : Nat} (h : XOK S xb) : kd S (xb + 11) = 15 := (h.2 (10, 4, 11, 15, 32) (by decide)).2.1
theorem xN_stack {S : St} {xb : Nat} (h : XOK S xb) : ln S (xb + 11) = 32 := (h.2 (10, 4, 11, 15, 32) (by decide)).2.2
theorem xZ_stack {S : St} {xb : Nat} (h : XOK S xb) : alen S (some (xb + 11)) = some 32 := alen_s (by rw [xK_stack h]; omega) (xN_stack h)
theorem xL_stack {S : St} {xb j : Nat} (h : XOK S xb) (hj : j < 32) : ldI S (some (xb + 11)) 15 (nI j) = some (mi S (xb + 11) j) := ldI_s (xK_stack h) (xN_stack h) hj (by decide)
theorem xS_stack {S : St} {xb j : Nat} (h : XOK S xb) (hj : j < 32) (v : Int32) : stI S (some (xb + 11)) 15 (nI j) v = some (setI S (xb + 11) j (nrw 15 v)) := stI_s (xK_stack h) (xN_stack h) hj (by decide) v
theorem xR_joining {S : St} {xb : Nat} (h : XOK S xb) : getR S (some xb) 12 13 = some (some (xb + 12)) := by rw [getR_s (h := h.1)]; exact congrArg some (h.2 (0, 13, 12, 6, 0) (by decide)).1
theorem xM_joining {S : St} {xb : Nat} (h : XOK S xb) : mr S xb 13 = some (xb + 12) := (h.2 (0, 13, 12, 6, 0) (by decide)).1
theorem xK_joining {S : St} {xb : Nat} (h : XOK S xb) : kd S (xb + 12) = 6 := (h.2 (0, 13, 12, 6, 0) (by decide)).2.1
theorem xV_joining {S : St} {xb : Nat} (h : XOK S xb) : rcv S (some (xb + 12)) 6 = some (xb + 12) := rcv_s (xK_joining h)
theorem xR_seats {S : St} {xb : Nat} (h : XOK S xb) : getR S (some (xb + 12)) 6 0 = some (some (xb + 13)) := by rw [getR_s (h := xK_joining h)]; exact congrArg some (h.2 (12, 0, 13, 19, 8) (by decide)).1
theorem xM_seats {S : St} {xb : Nat} (h : XOK S xb) : mr S (xb + 12) 0 = some (xb + 13) := (h.2 (12, 0, 13, 19, 8) (by decide)).1
theorem xK_seats {S : St} {xb : Nat} (h : XOK S xb) : kd S (xb + 13) = 19 := (h.2 (12, 0, 13, 19, 8) (by decide)).2.1
theorem xN_seats {S : St} {xb : Nat} (h : XOK S xb) : ln S (xb + 13) = 8 := (h.2 (12, 0, 13, 19, 8) (by decide)).2.2
theorem xZ_seats {S : St} {xb : Nat} (h : XOK S xb) : alen S (some (xb + 13)) = some 8 := alen_s (by rw [xK_seats h]; omega) (xN_seats h)
theorem xL_seats {S : St} {xb j : Nat} (h : XOK S xb) (hj : j < 8) : ldR S (some (xb + 13)) 19 (nI j) = some (mr S (xb + 13) j) := ldR_s (xK_seats h) (xN_seats h) hj (by decide)
theorem xR_worth {S : St} {xb : Nat} (h : XOK S xb) : getR S (some (xb + 12)) 6 2 = some (some (xb + 14)) := by rw [getR_s (h := xK_joining h)]; exact congrArg some (h.2 (12, 2, 14, 15, 256) (by decide)).1
theorem xM_worth {S : St} {xb : Nat} (h : XOK S xb) : mr S (xb + 12) 2 = some (xb + 14) := (h.2 (12, 2, 14, 15, 256) (by decide)).1
theorem xK_worth {S : St} {xb : Nat} (h : XOK S xb) : kd S (xb + 14) = 15 := (h.2 (12, 2, 14, 15, 256) (by decide)).2.1
theorem xN_worth {S : St} {xb : Nat} (h : XOK S xb) : ln S (xb + 14) = 256 := (h.2 (12, 2, 14, 15, 256) (by decide)).2.2
theorem xZ_worth {S : St} {xb : Nat} (h : XOK S xb) : alen S (some (xb + 14)) = some 256 := alen_s (by rw [xK_worth h]; omega) (xN_worth h)
theorem xL_worth {S : St} {xb j : Nat} (h : XOK S xb) (hj : j < 256) : ldI S (some (xb + 14)) 15 (nI j) = some (mi S (xb + 14) j) := ldI_s (xK_worth h) (xN_worth h) hj (by decide)
theorem xS_worth {S : St} {xb j : Nat} (h : XOK S xb) (hj : j < 256) (v : Int32) : stI S (some (xb + 14)) 15 (nI j) v = some (setI S (xb + 14) j (nrw 15 v)) := stI_s (xK_worth h) (xN_worth h) hj (by decide) v
theorem xR_best {S : St} {xb : Nat} (h : XOK S xb) : getR S (some (xb + 12)) 6 3 = some (some (xb + 15)) := by rw [getR_s (h := xK_joining h)]; exact congrArg some (h.2 (12, 3, 15, 15, 256) (by decide)).1
theorem xM_best {S : St} {xb : Nat} (h : XOK S xb) : mr S (xb + 12) 3 = some (xb + 15) := (h.2 (12, 3, 15, 15, 256) (by decide)).1
theorem xK_best {S : St} {xb : Nat} (h : XOK S xb) : kd S (xb + 15) = 15 := (h.2 (12, 3, 15, 15, 256) (by decide)).2.1
theorem xN_best {S : St} {xb : Nat} (h : XOK S xb) : ln S (xb + 15) = 256 := (h.2 (12, 3, 15, 15, 256) (by decide)).2.2
theorem xZ_best {S : St} {xb : Nat} (h : XOK S xb) : alen S (some (xb + 15)) = some 256 := alen_s (by rw [xK_best h]; omega) (xN_best h)
theorem xL_best {S : St} {xb j : Nat} (h : XOK S xb) (hj : j < 256) : ldI S (some (xb + 15)) 15 (nI j) = some (mi S (xb + 15) j) := ldI_s (xK_best h) (xN_best h) hj (by decide)
theorem xS_best {S : St} {xb j : Nat} (h : XOK S xb) (hj : j < 256) (v : Int32) : stI S (some (xb + 15)) 15 (nI j) v = some (setI S (xb + 15) j (nrw 15 v)) := stI_s (xK_best h) (xN_best h) hj (by decide) v
theorem xR_ways {S : St} {xb : Nat} (h : XOK S xb) : getR S (some (xb + 12)) 6 4 = some (some (xb + 16)) := by rw [getR_s (h := xK_joining h)]; exact congrArg some (h.2 (12, 4, 16, 15, 256) (by decide)).1
theorem xM_ways {S : St} {xb : Nat} (h : XOK S xb) : mr S (xb + 12) 4 = some (xb + 16) := (h.2 (12, 4, 16, 15, 256) (by decide)).1
theorem xK_ways {S : St} {xb : Nat} (h : XOK S xb) : kd S (xb + 16) = 15 := (h.2 (12, 4, 16, 15, 256) (by decide)).2.1
theorem xN_ways {S : St} {xb : Nat} (h : XOK S xb) : ln S (xb + 16) = 256 := (h.2 (12, 4, 16, 15, 256) (by decide)).2.2
theorem xZ_ways {S : St} {xb : Nat} (h : XOK S xb) : alen S (some (xb + 16)) = some 256 := alen_s (by rw [xK_ways h]; omega) (xN_ways h)
theorem xL_ways {S : St} {xb j : Nat} (h : XOK S xb) (hj : j < 256) : ldI S (some (xb + 16)) 15 (nI j) = some (mi S (xb + 16) j) := ldI_s (xK_ways h) (xN_ways h) hj (by decide)
theorem xS_ways {S : St} {xb j : Nat} (h : XOK S xb) (hj : j < 256) (v : Int32) : stI S (some (xb + 16)) 15 (nI j) v = some (setI S (xb + 16) j (nrw 15 v)) := stI_s (xK_ways h) (xN_ways h) hj (by decide) v
theorem xR_costs {S : St} {xb : Nat} (h : XOK S xb) : getR S (some xb) 12 14 = some (some (xb + 17)) := by rw [getR_s (h := h.1)]; exact congrArg some (h.2 (0, 14, 17, 15, 20) (by decide)).1
theorem xM_costs {S : St} {xb : Nat} (h : XOK S xb) : mr S xb 14 = some (xb + 17) := (h.2 (0, 14, 17, 15, 20) (by decide)).1
theorem xK_costs {S : St} {xb : Nat} (h : XOK S xb) : kd S (xb + 17) = 15 := (h.2 (0, 14, 17, 15, 20) (by decide)).2.1
theorem xN_costs {S : St} {xb : Nat} (h : XOK S xb) : ln S (xb + 17) = 20 := (h.2 (0, 14, 17, 15, 20) (by decide)).2.2
theorem xZ_costs {S : St} {xb : Nat} (h : XOK S xb) : alen S (some (xb + 17)) = some 20 := alen_s (by rw [xK_costs h]; omega) (xN_costs h)
theorem xL_costs {S : St} {xb j : Nat} (h : XOK S xb) (hj : j < 20) : ldI S (some (xb + 17)) 15 (nI j) = some (mi S (xb + 17) j) := ldI_s (xK_costs h) (xN_costs h) hj (by decide)
theorem xS_costs {S : St} {xb j : Nat} (h : XOK S xb) (hj : j < 20) (v : Int32) : stI S (some (xb + 17)) 15 (nI j) v = some (setI S (xb + 17) j (nrw 15 v)) := stI_s (xK_costs h) (xN_costs h) hj (by decide) v
theorem xR_chooser {S : St} {xb : Nat} (h : XOK S xb) : getR S (some xb) 12 15 = some (some (xb + 18)) := by rw [getR_s (h := h.1)]; exact congrArg some (h.2 (0, 15, 18, 2, 0) (by decide)).1
theorem xM_chooser {S : St} {xb : Nat} (h : XOK S xb) : mr S xb 15 = some (xb + 18) := (h.2 (0, 15, 18, 2, 0) (by decide)).1
theorem xK_chooser {S : St} {xb : Nat} (h : XOK S xb) : kd S (xb + 18) = 2 := (h.2 (0, 15, 18, 2, 0) (by decide)).2.1
theorem xV_chooser {S : St} {xb : Nat} (h : XOK S xb) : rcv S (some (xb + 18)) 2 = some (xb + 18) := rcv_s (xK_chooser h)
theorem xR_cworth {S : St} {xb : Nat} (h : XOK S xb) : getR S (some (xb + 18)) 2 0 = some (some (xb + 19)) := by rw [getR_s (h := xK_chooser h)]; exact congrArg some (h.2 (18, 0, 19, 16, 20) (by decide)).1
theorem xM_cworth {S : St} {xb : Nat} (h : XOK S xb) : mr S (xb + 18) 0 = some (xb + 19) := (h.2 (18, 0, 19, 16, 20) (by decide)).1
theorem xK_cworth {S : St} {xb : Nat} (h : XOK S xb) : kd S (xb + 19) = 16 := (h.2 (18, 0, 19, 16, 20) (by decide)).2.1
theorem xN_cworth {S : St} {xb : Nat} (h : XOK S xb) : ln S (xb + 19) = 20 := (h.2 (18, 0, 19, 16, 20) (by decide)).2.2
theorem xZ_cworth {S : St} {xb : Nat} (h : XOK S xb) : alen S (some (xb + 19)) = some 20 := alen_s (by rw [xK_cworth h]; omega) (xN_cworth h)
theorem xL_cworth {S : St} {xb j : Nat} (h : XOK S xb) (hj : j < 20) : ldL S (some (xb + 19)) (nI j) = some (ml S (xb + 19) j) := ldL_s (xK_cworth h) (xN_cworth h) hj (by decide)
theorem xS_cworth {S : St} {xb j : Nat} (h : XOK S xb) (hj : j < 20) (v : Int64) : stL S (some (xb + 19)) (nI j) v = some (setL S (xb + 19) j v) := stL_s (xK_cworth h) (xN_cworth h) hj (by decide) v
theorem xR_cprice {S : St} {xb : Nat} (h : XOK S xb) : getR S (some (xb + 18)) 2 1 = some (some (xb + 20)) := by rw [getR_s (h := xK_chooser h)]; exact congrArg some (h.2 (18, 1, 20, 15, 20) (by decide)).1
theorem xM_cprice {S : St} {xb : Nat} (h : XOK S xb) : mr S (xb + 18) 1 = some (xb + 20) := (h.2 (18, 1, 20, 15, 20) (by decide)).1
theorem xK_cprice {S : St} {xb : Nat} (h : XOK S xb) : kd S (xb + 20) = 15 := (h.2 (18, 1, 20, 15, 20) (by decide)).2.1
theorem xN_cprice {S : St} {xb : Nat} (h : XOK S xb) : ln S (xb + 20) = 20 := (h.2 (18, 1, 20, 15, 20) (by decide)).2.2
theorem xZ_cprice {S : St} {xb : Nat} (h : XOK S xb) : alen S (some (xb + 20)) = some 20 := alen_s (by rw [xK_cprice h]; omega) (xN_cprice h)
theorem xL_cprice {S : St} {xb j : Nat} (h : XOK S xb) (hj : j < 20) : ldI S (some (xb + 20)) 15 (nI j) = some (mi S (xb + 20) j) := ldI_s (xK_cprice h) (xN_cprice h) hj (by decide)
theorem xS_cprice {S : St} {xb j : Nat} (h : XOK S xb) (hj : j < 20) (v : Int32) : stI S (some (xb + 20)) 15 (nI j) v = some (setI S (xb + 20) j (nrw 15 v)) := stI_s (xK_cprice h) (xN_cprice h) hj (by decide) v
theorem xR_cnext {S : St} {xb : Nat} (h : XOK S xb) : getR S (some (xb + 18)) 2 2 = some (some (xb + 21)) := by rw [getR_s (h := xK_chooser h)]; exact congrArg some (h.2 (18, 2, 21, 15, 20) (by decide)).1
theorem xM_cnext {S : St} {xb : Nat} (h : XOK S xb) : mr S (xb + 18) 2 = some (xb + 21) := (h.2 (18, 2, 21, 15, 20) (by decide)).1
theorem xK_cnext {S : St} {xb : Nat} (h : XOK S xb) : kd S (xb + 21) = 15 := (h.2 (18, 2, 21, 15, 20) (by decide)).2.1
theorem xN_cnext {S : St} {xb : Nat} (h : XOK S xb) : ln S (xb + 21) = 20 := (h.2 (18, 2, 21, 15, 20) (by decide)).2.2
theorem xZ_cnext {S : St} {xb : Nat} (h : XOK S xb) : alen S (some (xb + 21)) = some 20 := alen_s (by rw [xK_cnext h]; omega) (xN_cnext h)
theorem xL_cnext {S : St} {xb j : Nat} (h : XOK S xb) (hj : j < 20) : ldI S (some (xb + 21)) 15 (nI j) = some (mi S (xb + 21) j) := ldI_s (xK_cnext h) (xN_cnext h) hj (by decide)
theorem xS_cnext {S : St} {xb j : Nat} (h : XOK S xb) (hj : j < 20) (v : Int32) : stI S (some (xb + 21)) 15 (nI j) v = some (setI S (xb + 21) j (nrw 15 v)) := stI_s (xK_cnext h) (xN_cnext h) hj (by decide) v
theorem xI {S : St} {xb : Nat} (h : XOK S xb) (f : Nat) : getI S (some xb) 12 f = some (mi S xb f) := getI_s h.1 f
theorem xP {S : St} {xb : Nat} (h : XOK S xb) (f : Nat) (v : Int32) : putI S (some xb) 12 f v = some (setI S xb f v) := putI_s h.1 f v
theorem xV {S : St} {xb : Nat} (h : XOK S xb) : rcv S (some xb) 12 = some xb := rcv_s h.1
theorem XOK.si {S : St} {xb : Nat} (h : XOK S xb) (a k : Nat) (v : Int32) : XOK (setI S a k v) xb := h
theorem XOK.sl {S : St} {xb : Nat} (h : XOK S xb) (a k : Nat) (v : Int64) : XOK (setL S a k v) xb := h
