/-! THE REFERENCE'S ROWS: where they lie (what they hold is mi, ml at these addresses) -/
def mTab : List (Nat × Nat × Nat × Nat) := [(5, 1, 15, 8), (6, 2, 15, 8), (7, 3, 15, 8), (8, 4, 15, 24), (9, 5, 15, 24), (10, 6, 15, 24), (11, 7, 15, 24), (12, 8, 15, 24), (13, 9, 15, 24), (14, 10, 15, 40), (15, 11, 15, 40), (16, 12, 15, 40), (17, 13, 15, 40), (18, 14, 15, 600), (19, 15, 15, 600), (20, 16, 15, 600), (21, 17, 15, 600), (22, 18, 15, 600), (23, 19, 15, 600), (24, 20, 15, 16), (25, 21, 15, 4), (26, 22, 15, 4), (27, 23, 15, 4), (28, 24, 15, 4), (29, 25, 15, 4), (30, 26, 15, 4), (31, 27, 15, 100), (32, 28, 15, 96), (33, 29, 15, 4880), (34, 30, 15, 24), (35, 31, 15, 24), (36, 32, 15, 24), (37, 33, 15, 25), (38, 34, 15, 24), (39, 35, 15, 1220), (40, 36, 15, 600), (41, 37, 15, 620), (55, 38, 15, 5), (56, 39, 15, 40), (57, 40, 15, 40), (58, 41, 15, 40), (59, 42, 16, 40), (60, 43, 15, 8), (61, 44, 15, 8), (62, 45, 15, 64), (66, 46, 17, 24), (67, 47, 16, 24), (68, 48, 16, 24), (70, 49, 15, 60), (71, 50, 15, 60), (72, 51, 15, 60), (73, 52, 15, 60), (74, 53, 15, 60), (75, 54, 16, 60), (76, 55, 16, 60), (77, 56, 15, 160), (78, 57, 15, 20), (79, 58, 15, 21000), (80, 59, 15, 21000)]
def MOK (S : St) (mb : Nat) : Prop := kd S mb = 13 ∧ ∀ q ∈ mTab, mr S mb q.1 = some (mb + q.2.1) ∧ kd S (mb + q.2.1) = q.2.2.1 ∧ ln S (mb + q.2.1) = q.2.2.2
theorem MOK.si {S : St} {mb : Nat} (h : MOK S mb) (a k : Nat) (v : Int32) : MOK (setI S a k v) mb := h
theorem MOK.sl {S : St} {mb : Nat} (h : MOK S mb) (a k : Nat) (v : Int64) : MOK (setL S a k v) mb := h
theorem mI {S : St} {mb : Nat} (h : MOK S mb) (f : Nat) : getI S (some mb) 13 f = some (mi S mb f) := getI_s h.1 f
theorem mP {S : St} {mb : Nat} (h : MOK S mb) (f : Nat) (v : Int32) : putI S (some mb) 13 f v = some (setI S mb f v) := putI_s h.1 f v
theorem mV {S : St} {mb : Nat} (h : MOK S mb) : rcv S (some mb) 13 = some mb := rcv_s h.1
theorem mR_firmState {S : St} {mb : Nat} (h : MOK S mb) : getR S (some mb) 13 5 = some (some (mb + 1)) := by rw [getR_s h.1]; exact congrArg some (h.2 (5, 1, 15, 8) (by decide)).1
theorem mK_firmState {S : St} {mb : Nat} (h : MOK S mb) : kd S (mb + 1) = 15 := (h.2 (5, 1, 15, 8) (by decide)).2.1
theorem mN_firmState {S : St} {mb : Nat} (h : MOK S mb) : ln S (mb + 1) = 8 := (h.2 (5, 1, 15, 8) (by decide)).2.2
theorem mL_firmState {S : St} {mb j : Nat} (h : MOK S mb) (hj : j < 8) : ldI S (some (mb + 1)) 15 (nI j) = some (mi S (mb + 1) j) := ldI_s (mK_firmState h) (mN_firmState h) hj (by decide)
theorem mS_firmState {S : St} {mb j : Nat} (h : MOK S mb) (hj : j < 8) (v : Int32) : stI S (some (mb + 1)) 15 (nI j) v = some (setI S (mb + 1) j (nrw 15 v)) := stI_s (mK_firmState h) (mN_firmState h) hj (by decide) v
theorem mR_mergedInto {S : St} {mb : Nat} (h : MOK S mb) : getR S (some mb) 13 6 = some (some (mb + 2)) := by rw [getR_s h.1]; exact congrArg some (h.2 (6, 2, 15, 8) (by decide)).1
theorem mK_mergedInto {S : St} {mb : Nat} (h : MOK S mb) : kd S (mb + 2) = 15 := (h.2 (6, 2, 15, 8) (by decide)).2.1
theorem mN_mergedInto {S : St} {mb : Nat} (h : MOK S mb) : ln S (mb + 2) = 8 := (h.2 (6, 2, 15, 8) (by decide)).2.2
theorem mL_mergedInto {S : St} {mb j : Nat} (h : MOK S mb) (hj : j < 8) : ldI S (some (mb + 2)) 15 (nI j) = some (mi S (mb + 2) j) := ldI_s (mK_mergedInto h) (mN_mergedInto h) hj (by decide)
theorem mS_mergedInto {S : St} {mb j : Nat} (h : MOK S mb) (hj : j < 8) (v : Int32) : stI S (some (mb + 2)) 15 (nI j) v = some (setI S (mb + 2) j (nrw 15 v)) := stI_s (mK_mergedInto h) (mN_mergedInto h) hj (by decide) v
theorem mR_mergedOn {S : St} {mb : Nat} (h : MOK S mb) : getR S (some mb) 13 7 = some (some (mb + 3)) := by rw [getR_s h.1]; exact congrArg some (h.2 (7, 3, 15, 8) (by decide)).1
theorem mK_mergedOn {S : St} {mb : Nat} (h : MOK S mb) : kd S (mb + 3) = 15 := (h.2 (7, 3, 15, 8) (by decide)).2.1
theorem mN_mergedOn {S : St} {mb : Nat} (h : MOK S mb) : ln S (mb + 3) = 8 := (h.2 (7, 3, 15, 8) (by decide)).2.2
theorem mL_mergedOn {S : St} {mb j : Nat} (h : MOK S mb) (hj : j < 8) : ldI S (some (mb + 3)) 15 (nI j) = some (mi S (mb + 3) j) := ldI_s (mK_mergedOn h) (mN_mergedOn h) hj (by decide)
theorem mS_mergedOn {S : St} {mb j : Nat} (h : MOK S mb) (hj : j < 8) (v : Int32) : stI S (some (mb + 3)) 15 (nI j) v = some (setI S (mb + 3) j (nrw 15 v)) := stI_s (mK_mergedOn h) (mN_mergedOn h) hj (by decide) v
theorem mR_name {S : St} {mb : Nat} (h : MOK S mb) : getR S (some mb) 13 8 = some (some (mb + 4)) := by rw [getR_s h.1]; exact congrArg some (h.2 (8, 4, 15, 24) (by decide)).1
theorem mK_name {S : St} {mb : Nat} (h : MOK S mb) : kd S (mb + 4) = 15 := (h.2 (8, 4, 15, 24) (by decide)).2.1
theorem mN_name {S : St} {mb : Nat} (h : MOK S mb) : ln S (mb + 4) = 24 := (h.2 (8, 4, 15, 24) (by decide)).2.2
theorem mL_name {S : St} {mb j : Nat} (h : MOK S mb) (hj : j < 24) : ldI S (some (mb + 4)) 15 (nI j) = some (mi S (mb + 4) j) := ldI_s (mK_name h) (mN_name h) hj (by decide)
theorem mS_name {S : St} {mb j : Nat} (h : MOK S mb) (hj : j < 24) (v : Int32) : stI S (some (mb + 4)) 15 (nI j) v = some (setI S (mb + 4) j (nrw 15 v)) := stI_s (mK_name h) (mN_name h) hj (by decide) v
theorem mR_born {S : St} {mb : Nat} (h : MOK S mb) : getR S (some mb) 13 9 = some (some (mb + 5)) := by rw [getR_s h.1]; exact congrArg some (h.2 (9, 5, 15, 24) (by decide)).1
theorem mK_born {S : St} {mb : Nat} (h : MOK S mb) : kd S (mb + 5) = 15 := (h.2 (9, 5, 15, 24) (by decide)).2.1
theorem mN_born {S : St} {mb : Nat} (h : MOK S mb) : ln S (mb + 5) = 24 := (h.2 (9, 5, 15, 24) (by decide)).2.2
theorem mL_born {S : St} {mb j : Nat} (h : MOK S mb) (hj : j < 24) : ldI S (some (mb + 5)) 15 (nI j) = some (mi S (mb + 5) j) := ldI_s (mK_born h) (mN_born h) hj (by decide)
theorem mS_born {S : St} {mb j : Nat} (h : MOK S mb) (hj : j < 24) (v : Int32) : stI S (some (mb + 5)) 15 (nI j) v = some (setI S (mb + 5) j (nrw 15 v)) := stI_s (mK_born h) (mN_born h) hj (by decide) v
theorem mR_home {S : St} {mb : Nat} (h : MOK S mb) : getR S (some mb) 13 10 = some (some (mb + 6)) := by rw [getR_s h.1]; exact congrArg some (h.2 (10, 6, 15, 24) (by decide)).1
theorem mK_home {S : St} {mb : Nat} (h : MOK S mb) : kd S (mb + 6) = 15 := (h.2 (10, 6, 15, 24) (by decide)).2.1
theorem mN_home {S : St} {mb : Nat} (h : MOK S mb) : ln S (mb + 6) = 24 := (h.2 (10, 6, 15, 24) (by decide)).2.2
theorem mL_home {S : St} {mb j : Nat} (h : MOK S mb) (hj : j < 24) : ldI S (some (mb + 6)) 15 (nI j) = some (mi S (mb + 6) j) := ldI_s (mK_home h) (mN_home h) hj (by decide)
theorem mS_home {S : St} {mb j : Nat} (h : MOK S mb) (hj : j < 24) (v : Int32) : stI S (some (mb + 6)) 15 (nI j) v = some (setI S (mb + 6) j (nrw 15 v)) := stI_s (mK_home h) (mN_home h) hj (by decide) v
theorem mR_mark {S : St} {mb : Nat} (h : MOK S mb) : getR S (some mb) 13 11 = some (some (mb + 7)) := by rw [getR_s h.1]; exact congrArg some (h.2 (11, 7, 15, 24) (by decide)).1
theorem mK_mark {S : St} {mb : Nat} (h : MOK S mb) : kd S (mb + 7) = 15 := (h.2 (11, 7, 15, 24) (by decide)).2.1
theorem mN_mark {S : St} {mb : Nat} (h : MOK S mb) : ln S (mb + 7) = 24 := (h.2 (11, 7, 15, 24) (by decide)).2.2
theorem mL_mark {S : St} {mb j : Nat} (h : MOK S mb) (hj : j < 24) : ldI S (some (mb + 7)) 15 (nI j) = some (mi S (mb + 7) j) := ldI_s (mK_mark h) (mN_mark h) hj (by decide)
theorem mS_mark {S : St} {mb j : Nat} (h : MOK S mb) (hj : j < 24) (v : Int32) : stI S (some (mb + 7)) 15 (nI j) v = some (setI S (mb + 7) j (nrw 15 v)) := stI_s (mK_mark h) (mN_mark h) hj (by decide) v
theorem mR_parent {S : St} {mb : Nat} (h : MOK S mb) : getR S (some mb) 13 12 = some (some (mb + 8)) := by rw [getR_s h.1]; exact congrArg some (h.2 (12, 8, 15, 24) (by decide)).1
theorem mK_parent {S : St} {mb : Nat} (h : MOK S mb) : kd S (mb + 8) = 15 := (h.2 (12, 8, 15, 24) (by decide)).2.1
theorem mN_parent {S : St} {mb : Nat} (h : MOK S mb) : ln S (mb + 8) = 24 := (h.2 (12, 8, 15, 24) (by decide)).2.2
theorem mL_parent {S : St} {mb j : Nat} (h : MOK S mb) (hj : j < 24) : ldI S (some (mb + 8)) 15 (nI j) = some (mi S (mb + 8) j) := ldI_s (mK_parent h) (mN_parent h) hj (by decide)
theorem mS_parent {S : St} {mb j : Nat} (h : MOK S mb) (hj : j < 24) (v : Int32) : stI S (some (mb + 8)) 15 (nI j) v = some (setI S (mb + 8) j (nrw 15 v)) := stI_s (mK_parent h) (mN_parent h) hj (by decide) v
theorem mR_died {S : St} {mb : Nat} (h : MOK S mb) : getR S (some mb) 13 13 = some (some (mb + 9)) := by rw [getR_s h.1]; exact congrArg some (h.2 (13, 9, 15, 24) (by decide)).1
theorem mK_died {S : St} {mb : Nat} (h : MOK S mb) : kd S (mb + 9) = 15 := (h.2 (13, 9, 15, 24) (by decide)).2.1
theorem mN_died {S : St} {mb : Nat} (h : MOK S mb) : ln S (mb + 9) = 24 := (h.2 (13, 9, 15, 24) (by decide)).2.2
theorem mL_died {S : St} {mb j : Nat} (h : MOK S mb) (hj : j < 24) : ldI S (some (mb + 9)) 15 (nI j) = some (mi S (mb + 9) j) := ldI_s (mK_died h) (mN_died h) hj (by decide)
theorem mS_died {S : St} {mb j : Nat} (h : MOK S mb) (hj : j < 24) (v : Int32) : stI S (some (mb + 9)) 15 (nI j) v = some (setI S (mb + 9) j (nrw 15 v)) := stI_s (mK_died h) (mN_died h) hj (by decide) v
theorem mR_accountFirm {S : St} {mb : Nat} (h : MOK S mb) : getR S (some mb) 13 14 = some (some (mb + 10)) := by rw [getR_s h.1]; exact congrArg some (h.2 (14, 10, 15, 40) (by decide)).1
theorem mK_accountFirm {S : St} {mb : Nat} (h : MOK S mb) : kd S (mb + 10) = 15 := (h.2 (14, 10, 15, 40) (by decide)).2.1
theorem mN_accountFirm {S : St} {mb : Nat} (h : MOK S mb) : ln S (mb + 10) = 40 := (h.2 (14, 10, 15, 40) (by decide)).2.2
theorem mL_accountFirm {S : St} {mb j : Nat} (h : MOK S mb) (hj : j < 40) : ldI S (some (mb + 10)) 15 (nI j) = some (mi S (mb + 10) j) := ldI_s (mK_accountFirm h) (mN_accountFirm h) hj (by decide)
theorem mS_accountFirm {S : St} {mb j : Nat} (h : MOK S mb) (hj : j < 40) (v : Int32) : stI S (some (mb + 10)) 15 (nI j) v = some (setI S (mb + 10) j (nrw 15 v)) := stI_s (mK_accountFirm h) (mN_accountFirm h) hj (by decide) v
theorem mR_accountKind {S : St} {mb : Nat} (h : MOK S mb) : getR S (some mb) 13 15 = some (some (mb + 11)) := by rw [getR_s h.1]; exact congrArg some (h.2 (15, 11, 15, 40) (by decide)).1
theorem mK_accountKind {S : St} {mb : Nat} (h : MOK S mb) : kd S (mb + 11) = 15 := (h.2 (15, 11, 15, 40) (by decide)).2.1
theorem mN_accountKind {S : St} {mb : Nat} (h : MOK S mb) : ln S (mb + 11) = 40 := (h.2 (15, 11, 15, 40) (by decide)).2.2
theorem mL_accountKind {S : St} {mb j : Nat} (h : MOK S mb) (hj : j < 40) : ldI S (some (mb + 11)) 15 (nI j) = some (mi S (mb + 11) j) := ldI_s (mK_accountKind h) (mN_accountKind h) hj (by decide)
theorem mS_accountKind {S : St} {mb j : Nat} (h : MOK S mb) (hj : j < 40) (v : Int32) : stI S (some (mb + 11)) 15 (nI j) v = some (setI S (mb + 11) j (nrw 15 v)) := stI_s (mK_accountKind h) (mN_accountKind h) hj (by decide) v
theorem mR_owner {S : St} {mb : Nat} (h : MOK S mb) : getR S (some mb) 13 16 = some (some (mb + 12)) := by rw [getR_s h.1]; exact congrArg some (h.2 (16, 12, 15, 40) (by decide)).1
theorem mK_owner {S : St} {mb : Nat} (h : MOK S mb) : kd S (mb + 12) = 15 := (h.2 (16, 12, 15, 40) (by decide)).2.1
theorem mN_owner {S : St} {mb : Nat} (h : MOK S mb) : ln S (mb + 12) = 40 := (h.2 (16, 12, 15, 40) (by decide)).2.2
theorem mL_owner {S : St} {mb j : Nat} (h : MOK S mb) (hj : j < 40) : ldI S (some (mb + 12)) 15 (nI j) = some (mi S (mb + 12) j) := ldI_s (mK_owner h) (mN_owner h) hj (by decide)
theorem mS_owner {S : St} {mb j : Nat} (h : MOK S mb) (hj : j < 40) (v : Int32) : stI S (some (mb + 12)) 15 (nI j) v = some (setI S (mb + 12) j (nrw 15 v)) := stI_s (mK_owner h) (mN_owner h) hj (by decide) v
theorem mR_began {S : St} {mb : Nat} (h : MOK S mb) : getR S (some mb) 13 17 = some (some (mb + 13)) := by rw [getR_s h.1]; exact congrArg some (h.2 (17, 13, 15, 40) (by decide)).1
theorem mK_began {S : St} {mb : Nat} (h : MOK S mb) : kd S (mb + 13) = 15 := (h.2 (17, 13, 15, 40) (by decide)).2.1
theorem mN_began {S : St} {mb : Nat} (h : MOK S mb) : ln S (mb + 13) = 40 := (h.2 (17, 13, 15, 40) (by decide)).2.2
theorem mL_began {S : St} {mb j : Nat} (h : MOK S mb) (hj : j < 40) : ldI S (some (mb + 13)) 15 (nI j) = some (mi S (mb + 13) j) := ldI_s (mK_began h) (mN_began h) hj (by decide)
theorem mS_began {S : St} {mb j : Nat} (h : MOK S mb) (hj : j < 40) (v : Int32) : stI S (some (mb + 13)) 15 (nI j) v = some (setI S (mb + 13) j (nrw 15 v)) := stI_s (mK_began h) (mN_began h) hj (by decide) v
theorem mR_actOf {S : St} {mb : Nat} (h : MOK S mb) : getR S (some mb) 13 18 = some (some (mb + 14)) := by rw [getR_s h.1]; exact congrArg some (h.2 (18, 14, 15, 600) (by decide)).1
theorem mK_actOf {S : St} {mb : Nat} (h : MOK S mb) : kd S (mb + 14) = 15 := (h.2 (18, 14, 15, 600) (by decide)).2.1
theorem mN_actOf {S : St} {mb : Nat} (h : MOK S mb) : ln S (mb + 14) = 600 := (h.2 (18, 14, 15, 600) (by decide)).2.2
theorem mL_actOf {S : St} {mb j : Nat} (h : MOK S mb) (hj : j < 600) : ldI S (some (mb + 14)) 15 (nI j) = some (mi S (mb + 14) j) := ldI_s (mK_actOf h) (mN_actOf h) hj (by decide)
theorem mS_actOf {S : St} {mb j : Nat} (h : MOK S mb) (hj : j < 600) (v : Int32) : stI S (some (mb + 14)) 15 (nI j) v = some (setI S (mb + 14) j (nrw 15 v)) := stI_s (mK_actOf h) (mN_actOf h) hj (by decide) v
theorem mR_actSort {S : St} {mb : Nat} (h : MOK S mb) : getR S (some mb) 13 19 = some (some (mb + 15)) := by rw [getR_s h.1]; exact congrArg some (h.2 (19, 15, 15, 600) (by decide)).1
theorem mK_actSort {S : St} {mb : Nat} (h : MOK S mb) : kd S (mb + 15) = 15 := (h.2 (19, 15, 15, 600) (by decide)).2.1
theorem mN_actSort {S : St} {mb : Nat} (h : MOK S mb) : ln S (mb + 15) = 600 := (h.2 (19, 15, 15, 600) (by decide)).2.2
theorem mL_actSort {S : St} {mb j : Nat} (h : MOK S mb) (hj : j < 600) : ldI S (some (mb + 15)) 15 (nI j) = some (mi S (mb + 15) j) := ldI_s (mK_actSort h) (mN_actSort h) hj (by decide)
theorem mS_actSort {S : St} {mb j : Nat} (h : MOK S mb) (hj : j < 600) (v : Int32) : stI S (some (mb + 15)) 15 (nI j) v = some (setI S (mb + 15) j (nrw 15 v)) := stI_s (mK_actSort h) (mN_actSort h) hj (by decide) v
theorem mR_actOn {S : St} {mb : Nat} (h : MOK S mb) : getR S (some mb) 13 20 = some (some (mb + 16)) := by rw [getR_s h.1]; exact congrArg some (h.2 (20, 16, 15, 600) (by decide)).1
theorem mK_actOn {S : St} {mb : Nat} (h : MOK S mb) : kd S (mb + 16) = 15 := (h.2 (20, 16, 15, 600) (by decide)).2.1
theorem mN_actOn {S : St} {mb : Nat} (h : MOK S mb) : ln S (mb + 16) = 600 := (h.2 (20, 16, 15, 600) (by decide)).2.2
theorem mL_actOn {S : St} {mb j : Nat} (h : MOK S mb) (hj : j < 600) : ldI S (some (mb + 16)) 15 (nI j) = some (mi S (mb + 16) j) := ldI_s (mK_actOn h) (mN_actOn h) hj (by decide)
theorem mS_actOn {S : St} {mb j : Nat} (h : MOK S mb) (hj : j < 600) (v : Int32) : stI S (some (mb + 16)) 15 (nI j) v = some (setI S (mb + 16) j (nrw 15 v)) := stI_s (mK_actOn h) (mN_actOn h) hj (by decide) v
theorem mR_actAmount {S : St} {mb : Nat} (h : MOK S mb) : getR S (some mb) 13 21 = some (some (mb + 17)) := by rw [getR_s h.1]; exact congrArg some (h.2 (21, 17, 15, 600) (by decide)).1
theorem mK_actAmount {S : St} {mb : Nat} (h : MOK S mb) : kd S (mb + 17) = 15 := (h.2 (21, 17, 15, 600) (by decide)).2.1
theorem mN_actAmount {S : St} {mb : Nat} (h : MOK S mb) : ln S (mb + 17) = 600 := (h.2 (21, 17, 15, 600) (by decide)).2.2
theorem mL_actAmount {S : St} {mb j : Nat} (h : MOK S mb) (hj : j < 600) : ldI S (some (mb + 17)) 15 (nI j) = some (mi S (mb + 17) j) := ldI_s (mK_actAmount h) (mN_actAmount h) hj (by decide)
theorem mS_actAmount {S : St} {mb j : Nat} (h : MOK S mb) (hj : j < 600) (v : Int32) : stI S (some (mb + 17)) 15 (nI j) v = some (setI S (mb + 17) j (nrw 15 v)) := stI_s (mK_actAmount h) (mN_actAmount h) hj (by decide) v
theorem mR_actBy {S : St} {mb : Nat} (h : MOK S mb) : getR S (some mb) 13 22 = some (some (mb + 18)) := by rw [getR_s h.1]; exact congrArg some (h.2 (22, 18, 15, 600) (by decide)).1
theorem mK_actBy {S : St} {mb : Nat} (h : MOK S mb) : kd S (mb + 18) = 15 := (h.2 (22, 18, 15, 600) (by decide)).2.1
theorem mN_actBy {S : St} {mb : Nat} (h : MOK S mb) : ln S (mb + 18) = 600 := (h.2 (22, 18, 15, 600) (by decide)).2.2
theorem mL_actBy {S : St} {mb j : Nat} (h : MOK S mb) (hj : j < 600) : ldI S (some (mb + 18)) 15 (nI j) = some (mi S (mb + 18) j) := ldI_s (mK_actBy h) (mN_actBy h) hj (by decide)
theorem mS_actBy {S : St} {mb j : Nat} (h : MOK S mb) (hj : j < 600) (v : Int32) : stI S (some (mb + 18)) 15 (nI j) v = some (setI S (mb + 18) j (nrw 15 v)) := stI_s (mK_actBy h) (mN_actBy h) hj (by decide) v
theorem mR_actTold {S : St} {mb : Nat} (h : MOK S mb) : getR S (some mb) 13 23 = some (some (mb + 19)) := by rw [getR_s h.1]; exact congrArg some (h.2 (23, 19, 15, 600) (by decide)).1
theorem mK_actTold {S : St} {mb : Nat} (h : MOK S mb) : kd S (mb + 19) = 15 := (h.2 (23, 19, 15, 600) (by decide)).2.1
theorem mN_actTold {S : St} {mb : Nat} (h : MOK S mb) : ln S (mb + 19) = 600 := (h.2 (23, 19, 15, 600) (by decide)).2.2
theorem mL_actTold {S : St} {mb j : Nat} (h : MOK S mb) (hj : j < 600) : ldI S (some (mb + 19)) 15 (nI j) = some (mi S (mb + 19) j) := ldI_s (mK_actTold h) (mN_actTold h) hj (by decide)
theorem mS_actTold {S : St} {mb j : Nat} (h : MOK S mb) (hj : j < 600) (v : Int32) : stI S (some (mb + 19)) 15 (nI j) v = some (setI S (mb + 19) j (nrw 15 v)) := stI_s (mK_actTold h) (mN_actTold h) hj (by decide) v
theorem mR_sleepYears {S : St} {mb : Nat} (h : MOK S mb) : getR S (some mb) 13 24 = some (some (mb + 20)) := by rw [getR_s h.1]; exact congrArg some (h.2 (24, 20, 15, 16) (by decide)).1
theorem mK_sleepYears {S : St} {mb : Nat} (h : MOK S mb) : kd S (mb + 20) = 15 := (h.2 (24, 20, 15, 16) (by decide)).2.1
theorem mN_sleepYears {S : St} {mb : Nat} (h : MOK S mb) : ln S (mb + 20) = 16 := (h.2 (24, 20, 15, 16) (by decide)).2.2
theorem mL_sleepYears {S : St} {mb j : Nat} (h : MOK S mb) (hj : j < 16) : ldI S (some (mb + 20)) 15 (nI j) = some (mi S (mb + 20) j) := ldI_s (mK_sleepYears h) (mN_sleepYears h) hj (by decide)
theorem mS_sleepYears {S : St} {mb j : Nat} (h : MOK S mb) (hj : j < 16) (v : Int32) : stI S (some (mb + 20)) 15 (nI j) v = some (setI S (mb + 20) j (nrw 15 v)) := stI_s (mK_sleepYears h) (mN_sleepYears h) hj (by decide) v
theorem mR_counting {S : St} {mb : Nat} (h : MOK S mb) : getR S (some mb) 13 25 = some (some (mb + 21)) := by rw [getR_s h.1]; exact congrArg some (h.2 (25, 21, 15, 4) (by decide)).1
theorem mK_counting {S : St} {mb : Nat} (h : MOK S mb) : kd S (mb + 21) = 15 := (h.2 (25, 21, 15, 4) (by decide)).2.1
theorem mN_counting {S : St} {mb : Nat} (h : MOK S mb) : ln S (mb + 21) = 4 := (h.2 (25, 21, 15, 4) (by decide)).2.2
theorem mL_counting {S : St} {mb j : Nat} (h : MOK S mb) (hj : j < 4) : ldI S (some (mb + 21)) 15 (nI j) = some (mi S (mb + 21) j) := ldI_s (mK_counting h) (mN_counting h) hj (by decide)
theorem mS_counting {S : St} {mb j : Nat} (h : MOK S mb) (hj : j < 4) (v : Int32) : stI S (some (mb + 21)) 15 (nI j) v = some (setI S (mb + 21) j (nrw 15 v)) := stI_s (mK_counting h) (mN_counting h) hj (by decide) v
theorem mR_letter {S : St} {mb : Nat} (h : MOK S mb) : getR S (some mb) 13 26 = some (some (mb + 22)) := by rw [getR_s h.1]; exact congrArg some (h.2 (26, 22, 15, 4) (by decide)).1
theorem mK_letter {S : St} {mb : Nat} (h : MOK S mb) : kd S (mb + 22) = 15 := (h.2 (26, 22, 15, 4) (by decide)).2.1
theorem mN_letter {S : St} {mb : Nat} (h : MOK S mb) : ln S (mb + 22) = 4 := (h.2 (26, 22, 15, 4) (by decide)).2.2
theorem mL_letter {S : St} {mb j : Nat} (h : MOK S mb) (hj : j < 4) : ldI S (some (mb + 22)) 15 (nI j) = some (mi S (mb + 22) j) := ldI_s (mK_letter h) (mN_letter h) hj (by decide)
theorem mS_letter {S : St} {mb j : Nat} (h : MOK S mb) (hj : j < 4) (v : Int32) : stI S (some (mb + 22)) 15 (nI j) v = some (setI S (mb + 22) j (nrw 15 v)) := stI_s (mK_letter h) (mN_letter h) hj (by decide) v
theorem mR_fee {S : St} {mb : Nat} (h : MOK S mb) : getR S (some mb) 13 27 = some (some (mb + 23)) := by rw [getR_s h.1]; exact congrArg some (h.2 (27, 23, 15, 4) (by decide)).1
theorem mK_fee {S : St} {mb : Nat} (h : MOK S mb) : kd S (mb + 23) = 15 := (h.2 (27, 23, 15, 4) (by decide)).2.1
theorem mN_fee {S : St} {mb : Nat} (h : MOK S mb) : ln S (mb + 23) = 4 := (h.2 (27, 23, 15, 4) (by decide)).2.2
theorem mL_fee {S : St} {mb j : Nat} (h : MOK S mb) (hj : j < 4) : ldI S (some (mb + 23)) 15 (nI j) = some (mi S (mb + 23) j) := ldI_s (mK_fee h) (mN_fee h) hj (by decide)
theorem mS_fee {S : St} {mb j : Nat} (h : MOK S mb) (hj : j < 4) (v : Int32) : stI S (some (mb + 23)) 15 (nI j) v = some (setI S (mb + 23) j (nrw 15 v)) := stI_s (mK_fee h) (mN_fee h) hj (by decide) v
theorem mR_interestBy {S : St} {mb : Nat} (h : MOK S mb) : getR S (some mb) 13 28 = some (some (mb + 24)) := by rw [getR_s h.1]; exact congrArg some (h.2 (28, 24, 15, 4) (by decide)).1
theorem mK_interestBy {S : St} {mb : Nat} (h : MOK S mb) : kd S (mb + 24) = 15 := (h.2 (28, 24, 15, 4) (by decide)).2.1
theorem mN_interestBy {S : St} {mb : Nat} (h : MOK S mb) : ln S (mb + 24) = 4 := (h.2 (28, 24, 15, 4) (by decide)).2.2
theorem mL_interestBy {S : St} {mb j : Nat} (h : MOK S mb) (hj : j < 4) : ldI S (some (mb + 24)) 15 (nI j) = some (mi S (mb + 24) j) := ldI_s (mK_interestBy h) (mN_interestBy h) hj (by decide)
theorem mS_interestBy {S : St} {mb j : Nat} (h : MOK S mb) (hj : j < 4) (v : Int32) : stI S (some (mb + 24)) 15 (nI j) v = some (setI S (mb + 24) j (nrw 15 v)) := stI_s (mK_interestBy h) (mN_interestBy h) hj (by decide) v
theorem mR_interestFor {S : St} {mb : Nat} (h : MOK S mb) : getR S (some mb) 13 29 = some (some (mb + 25)) := by rw [getR_s h.1]; exact congrArg some (h.2 (29, 25, 15, 4) (by decide)).1
theorem mK_interestFor {S : St} {mb : Nat} (h : MOK S mb) : kd S (mb + 25) = 15 := (h.2 (29, 25, 15, 4) (by decide)).2.1
theorem mN_interestFor {S : St} {mb : Nat} (h : MOK S mb) : ln S (mb + 25) = 4 := (h.2 (29, 25, 15, 4) (by decide)).2.2
theorem mL_interestFor {S : St} {mb j : Nat} (h : MOK S mb) (hj : j < 4) : ldI S (some (mb + 25)) 15 (nI j) = some (mi S (mb + 25) j) := ldI_s (mK_interestFor h) (mN_interestFor h) hj (by decide)
theorem mS_interestFor {S : St} {mb j : Nat} (h : MOK S mb) (hj : j < 4) (v : Int32) : stI S (some (mb + 25)) 15 (nI j) v = some (setI S (mb + 25) j (nrw 15 v)) := stI_s (mK_interestFor h) (mN_interestFor h) hj (by decide) v
theorem mR_proofs {S : St} {mb : Nat} (h : MOK S mb) : getR S (some mb) 13 30 = some (some (mb + 26)) := by rw [getR_s h.1]; exact congrArg some (h.2 (30, 26, 15, 4) (by decide)).1
theorem mK_proofs {S : St} {mb : Nat} (h : MOK S mb) : kd S (mb + 26) = 15 := (h.2 (30, 26, 15, 4) (by decide)).2.1
theorem mN_proofs {S : St} {mb : Nat} (h : MOK S mb) : ln S (mb + 26) = 4 := (h.2 (30, 26, 15, 4) (by decide)).2.2
theorem mL_proofs {S : St} {mb j : Nat} (h : MOK S mb) (hj : j < 4) : ldI S (some (mb + 26)) 15 (nI j) = some (mi S (mb + 26) j) := ldI_s (mK_proofs h) (mN_proofs h) hj (by decide)
theorem mS_proofs {S : St} {mb j : Nat} (h : MOK S mb) (hj : j < 4) (v : Int32) : stI S (some (mb + 26)) 15 (nI j) v = some (setI S (mb + 26) j (nrw 15 v)) := stI_s (mK_proofs h) (mN_proofs h) hj (by decide) v
theorem mR_from {S : St} {mb : Nat} (h : MOK S mb) : getR S (some mb) 13 31 = some (some (mb + 27)) := by rw [getR_s h.1]; exact congrArg some (h.2 (31, 27, 15, 100) (by decide)).1
theorem mK_from {S : St} {mb : Nat} (h : MOK S mb) : kd S (mb + 27) = 15 := (h.2 (31, 27, 15, 100) (by decide)).2.1
theorem mN_from {S : St} {mb : Nat} (h : MOK S mb) : ln S (mb + 27) = 100 := (h.2 (31, 27, 15, 100) (by decide)).2.2
theorem mL_from {S : St} {mb j : Nat} (h : MOK S mb) (hj : j < 100) : ldI S (some (mb + 27)) 15 (nI j) = some (mi S (mb + 27) j) := ldI_s (mK_from h) (mN_from h) hj (by decide)
theorem mS_from {S : St} {mb j : Nat} (h : MOK S mb) (hj : j < 100) (v : Int32) : stI S (some (mb + 27)) 15 (nI j) v = some (setI S (mb + 27) j (nrw 15 v)) := stI_s (mK_from h) (mN_from h) hj (by decide) v
theorem mR_when {S : St} {mb : Nat} (h : MOK S mb) : getR S (some mb) 13 32 = some (some (mb + 28)) := by rw [getR_s h.1]; exact congrArg some (h.2 (32, 28, 15, 96) (by decide)).1
theorem mK_when {S : St} {mb : Nat} (h : MOK S mb) : kd S (mb + 28) = 15 := (h.2 (32, 28, 15, 96) (by decide)).2.1
theorem mN_when {S : St} {mb : Nat} (h : MOK S mb) : ln S (mb + 28) = 96 := (h.2 (32, 28, 15, 96) (by decide)).2.2
theorem mL_when {S : St} {mb j : Nat} (h : MOK S mb) (hj : j < 96) : ldI S (some (mb + 28)) 15 (nI j) = some (mi S (mb + 28) j) := ldI_s (mK_when h) (mN_when h) hj (by decide)
theorem mS_when {S : St} {mb j : Nat} (h : MOK S mb) (hj : j < 96) (v : Int32) : stI S (some (mb + 28)) 15 (nI j) v = some (setI S (mb + 28) j (nrw 15 v)) := stI_s (mK_when h) (mN_when h) hj (by decide) v
theorem mR_step {S : St} {mb : Nat} (h : MOK S mb) : getR S (some mb) 13 33 = some (some (mb + 29)) := by rw [getR_s h.1]; exact congrArg some (h.2 (33, 29, 15, 4880) (by decide)).1
theorem mK_step {S : St} {mb : Nat} (h : MOK S mb) : kd S (mb + 29) = 15 := (h.2 (33, 29, 15, 4880) (by decide)).2.1
theorem mN_step {S : St} {mb : Nat} (h : MOK S mb) : ln S (mb + 29) = 4880 := (h.2 (33, 29, 15, 4880) (by decide)).2.2
theorem mL_step {S : St} {mb j : Nat} (h : MOK S mb) (hj : j < 4880) : ldI S (some (mb + 29)) 15 (nI j) = some (mi S (mb + 29) j) := ldI_s (mK_step h) (mN_step h) hj (by decide)
theorem mS_step {S : St} {mb j : Nat} (h : MOK S mb) (hj : j < 4880) (v : Int32) : stI S (some (mb + 29)) 15 (nI j) v = some (setI S (mb + 29) j (nrw 15 v)) := stI_s (mK_step h) (mN_step h) hj (by decide) v
theorem mR_freshSort {S : St} {mb : Nat} (h : MOK S mb) : getR S (some mb) 13 34 = some (some (mb + 30)) := by rw [getR_s h.1]; exact congrArg some (h.2 (34, 30, 15, 24) (by decide)).1
theorem mK_freshSort {S : St} {mb : Nat} (h : MOK S mb) : kd S (mb + 30) = 15 := (h.2 (34, 30, 15, 24) (by decide)).2.1
theorem mN_freshSort {S : St} {mb : Nat} (h : MOK S mb) : ln S (mb + 30) = 24 := (h.2 (34, 30, 15, 24) (by decide)).2.2
theorem mL_freshSort {S : St} {mb j : Nat} (h : MOK S mb) (hj : j < 24) : ldI S (some (mb + 30)) 15 (nI j) = some (mi S (mb + 30) j) := ldI_s (mK_freshSort h) (mN_freshSort h) hj (by decide)
theorem mS_freshSort {S : St} {mb j : Nat} (h : MOK S mb) (hj : j < 24) (v : Int32) : stI S (some (mb + 30)) 15 (nI j) v = some (setI S (mb + 30) j (nrw 15 v)) := stI_s (mK_freshSort h) (mN_freshSort h) hj (by decide) v
theorem mR_freshA {S : St} {mb : Nat} (h : MOK S mb) : getR S (some mb) 13 35 = some (some (mb + 31)) := by rw [getR_s h.1]; exact congrArg some (h.2 (35, 31, 15, 24) (by decide)).1
theorem mK_freshA {S : St} {mb : Nat} (h : MOK S mb) : kd S (mb + 31) = 15 := (h.2 (35, 31, 15, 24) (by decide)).2.1
theorem mN_freshA {S : St} {mb : Nat} (h : MOK S mb) : ln S (mb + 31) = 24 := (h.2 (35, 31, 15, 24) (by decide)).2.2
theorem mL_freshA {S : St} {mb j : Nat} (h : MOK S mb) (hj : j < 24) : ldI S (some (mb + 31)) 15 (nI j) = some (mi S (mb + 31) j) := ldI_s (mK_freshA h) (mN_freshA h) hj (by decide)
theorem mS_freshA {S : St} {mb j : Nat} (h : MOK S mb) (hj : j < 24) (v : Int32) : stI S (some (mb + 31)) 15 (nI j) v = some (setI S (mb + 31) j (nrw 15 v)) := stI_s (mK_freshA h) (mN_freshA h) hj (by decide) v
theorem mR_freshB {S : St} {mb : Nat} (h : MOK S mb) : getR S (some mb) 13 36 = some (some (mb + 32)) := by rw [getR_s h.1]; exact congrArg some (h.2 (36, 32, 15, 24) (by decide)).1
theorem mK_freshB {S : St} {mb : Nat} (h : MOK S mb) : kd S (mb + 32) = 15 := (h.2 (36, 32, 15, 24) (by decide)).2.1
theorem mN_freshB {S : St} {mb : Nat} (h : MOK S mb) : ln S (mb + 32) = 24 := (h.2 (36, 32, 15, 24) (by decide)).2.2
theorem mL_freshB {S : St} {mb j : Nat} (h : MOK S mb) (hj : j < 24) : ldI S (some (mb + 32)) 15 (nI j) = some (mi S (mb + 32) j) := ldI_s (mK_freshB h) (mN_freshB h) hj (by decide)
theorem mS_freshB {S : St} {mb j : Nat} (h : MOK S mb) (hj : j < 24) (v : Int32) : stI S (some (mb + 32)) 15 (nI j) v = some (setI S (mb + 32) j (nrw 15 v)) := stI_s (mK_freshB h) (mN_freshB h) hj (by decide) v
theorem mR_freshFrom {S : St} {mb : Nat} (h : MOK S mb) : getR S (some mb) 13 37 = some (some (mb + 33)) := by rw [getR_s h.1]; exact congrArg some (h.2 (37, 33, 15, 25) (by decide)).1
theorem mK_freshFrom {S : St} {mb : Nat} (h : MOK S mb) : kd S (mb + 33) = 15 := (h.2 (37, 33, 15, 25) (by decide)).2.1
theorem mN_freshFrom {S : St} {mb : Nat} (h : MOK S mb) : ln S (mb + 33) = 25 := (h.2 (37, 33, 15, 25) (by decide)).2.2
theorem mL_freshFrom {S : St} {mb j : Nat} (h : MOK S mb) (hj : j < 25) : ldI S (some (mb + 33)) 15 (nI j) = some (mi S (mb + 33) j) := ldI_s (mK_freshFrom h) (mN_freshFrom h) hj (by decide)
theorem mS_freshFrom {S : St} {mb j : Nat} (h : MOK S mb) (hj : j < 25) (v : Int32) : stI S (some (mb + 33)) 15 (nI j) v = some (setI S (mb + 33) j (nrw 15 v)) := stI_s (mK_freshFrom h) (mN_freshFrom h) hj (by decide) v
theorem mR_freshWhen {S : St} {mb : Nat} (h : MOK S mb) : getR S (some mb) 13 38 = some (some (mb + 34)) := by rw [getR_s h.1]; exact congrArg some (h.2 (38, 34, 15, 24) (by decide)).1
theorem mK_freshWhen {S : St} {mb : Nat} (h : MOK S mb) : kd S (mb + 34) = 15 := (h.2 (38, 34, 15, 24) (by decide)).2.1
theorem mN_freshWhen {S : St} {mb : Nat} (h : MOK S mb) : ln S (mb + 34) = 24 := (h.2 (38, 34, 15, 24) (by decide)).2.2
theorem mL_freshWhen {S : St} {mb j : Nat} (h : MOK S mb) (hj : j < 24) : ldI S (some (mb + 34)) 15 (nI j) = some (mi S (mb + 34) j) := ldI_s (mK_freshWhen h) (mN_freshWhen h) hj (by decide)
theorem mS_freshWhen {S : St} {mb j : Nat} (h : MOK S mb) (hj : j < 24) (v : Int32) : stI S (some (mb + 34)) 15 (nI j) v = some (setI S (mb + 34) j (nrw 15 v)) := stI_s (mK_freshWhen h) (mN_freshWhen h) hj (by decide) v
theorem mR_fresh {S : St} {mb : Nat} (h : MOK S mb) : getR S (some mb) 13 39 = some (some (mb + 35)) := by rw [getR_s h.1]; exact congrArg some (h.2 (39, 35, 15, 1220) (by decide)).1
theorem mK_fresh {S : St} {mb : Nat} (h : MOK S mb) : kd S (mb + 35) = 15 := (h.2 (39, 35, 15, 1220) (by decide)).2.1
theorem mN_fresh {S : St} {mb : Nat} (h : MOK S mb) : ln S (mb + 35) = 1220 := (h.2 (39, 35, 15, 1220) (by decide)).2.2
theorem mL_fresh {S : St} {mb j : Nat} (h : MOK S mb) (hj : j < 1220) : ldI S (some (mb + 35)) 15 (nI j) = some (mi S (mb + 35) j) := ldI_s (mK_fresh h) (mN_fresh h) hj (by decide)
theorem mS_fresh {S : St} {mb j : Nat} (h : MOK S mb) (hj : j < 1220) (v : Int32) : stI S (some (mb + 35)) 15 (nI j) v = some (setI S (mb + 35) j (nrw 15 v)) := stI_s (mK_fresh h) (mN_fresh h) hj (by decide) v
theorem mR_tape {S : St} {mb : Nat} (h : MOK S mb) : getR S (some mb) 13 40 = some (some (mb + 36)) := by rw [getR_s h.1]; exact congrArg some (h.2 (40, 36, 15, 600) (by decide)).1
theorem mK_tape {S : St} {mb : Nat} (h : MOK S mb) : kd S (mb + 36) = 15 := (h.2 (40, 36, 15, 600) (by decide)).2.1
theorem mN_tape {S : St} {mb : Nat} (h : MOK S mb) : ln S (mb + 36) = 600 := (h.2 (40, 36, 15, 600) (by decide)).2.2
theorem mL_tape {S : St} {mb j : Nat} (h : MOK S mb) (hj : j < 600) : ldI S (some (mb + 36)) 15 (nI j) = some (mi S (mb + 36) j) := ldI_s (mK_tape h) (mN_tape h) hj (by decide)
theorem mS_tape {S : St} {mb j : Nat} (h : MOK S mb) (hj : j < 600) (v : Int32) : stI S (some (mb + 36)) 15 (nI j) v = some (setI S (mb + 36) j (nrw 15 v)) := stI_s (mK_tape h) (mN_tape h) hj (by decide) v
theorem mR_pile {S : St} {mb : Nat} (h : MOK S mb) : getR S (some mb) 13 41 = some (some (mb + 37)) := by rw [getR_s h.1]; exact congrArg some (h.2 (41, 37, 15, 620) (by decide)).1
theorem mK_pile {S : St} {mb : Nat} (h : MOK S mb) : kd S (mb + 37) = 15 := (h.2 (41, 37, 15, 620) (by decide)).2.1
theorem mN_pile {S : St} {mb : Nat} (h : MOK S mb) : ln S (mb + 37) = 620 := (h.2 (41, 37, 15, 620) (by decide)).2.2
theorem mL_pile {S : St} {mb j : Nat} (h : MOK S mb) (hj : j < 620) : ldI S (some (mb + 37)) 15 (nI j) = some (mi S (mb + 37) j) := ldI_s (mK_pile h) (mN_pile h) hj (by decide)
theorem mS_pile {S : St} {mb j : Nat} (h : MOK S mb) (hj : j < 620) (v : Int32) : stI S (some (mb + 37)) 15 (nI j) v = some (setI S (mb + 37) j (nrw 15 v)) := stI_s (mK_pile h) (mN_pile h) hj (by decide) v
theorem mR_facts {S : St} {mb : Nat} (h : MOK S mb) : getR S (some mb) 13 55 = some (some (mb + 38)) := by rw [getR_s h.1]; exact congrArg some (h.2 (55, 38, 15, 5) (by decide)).1
theorem mK_facts {S : St} {mb : Nat} (h : MOK S mb) : kd S (mb + 38) = 15 := (h.2 (55, 38, 15, 5) (by decide)).2.1
theorem mN_facts {S : St} {mb : Nat} (h : MOK S mb) : ln S (mb + 38) = 5 := (h.2 (55, 38, 15, 5) (by decide)).2.2
theorem mL_facts {S : St} {mb j : Nat} (h : MOK S mb) (hj : j < 5) : ldI S (some (mb + 38)) 15 (nI j) = some (mi S (mb + 38) j) := ldI_s (mK_facts h) (mN_facts h) hj (by decide)
theorem mS_facts {S : St} {mb j : Nat} (h : MOK S mb) (hj : j < 5) (v : Int32) : stI S (some (mb + 38)) 15 (nI j) v = some (setI S (mb + 38) j (nrw 15 v)) := stI_s (mK_facts h) (mN_facts h) hj (by decide) v
theorem mR_heldBy {S : St} {mb : Nat} (h : MOK S mb) : getR S (some mb) 13 56 = some (some (mb + 39)) := by rw [getR_s h.1]; exact congrArg some (h.2 (56, 39, 15, 40) (by decide)).1
theorem mK_heldBy {S : St} {mb : Nat} (h : MOK S mb) : kd S (mb + 39) = 15 := (h.2 (56, 39, 15, 40) (by decide)).2.1
theorem mN_heldBy {S : St} {mb : Nat} (h : MOK S mb) : ln S (mb + 39) = 40 := (h.2 (56, 39, 15, 40) (by decide)).2.2
theorem mL_heldBy {S : St} {mb j : Nat} (h : MOK S mb) (hj : j < 40) : ldI S (some (mb + 39)) 15 (nI j) = some (mi S (mb + 39) j) := ldI_s (mK_heldBy h) (mN_heldBy h) hj (by decide)
theorem mS_heldBy {S : St} {mb j : Nat} (h : MOK S mb) (hj : j < 40) (v : Int32) : stI S (some (mb + 39)) 15 (nI j) v = some (setI S (mb + 39) j (nrw 15 v)) := stI_s (mK_heldBy h) (mN_heldBy h) hj (by decide) v
theorem mR_heldOn {S : St} {mb : Nat} (h : MOK S mb) : getR S (some mb) 13 57 = some (some (mb + 40)) := by rw [getR_s h.1]; exact congrArg some (h.2 (57, 40, 15, 40) (by decide)).1
theorem mK_heldOn {S : St} {mb : Nat} (h : MOK S mb) : kd S (mb + 40) = 15 := (h.2 (57, 40, 15, 40) (by decide)).2.1
theorem mN_heldOn {S : St} {mb : Nat} (h : MOK S mb) : ln S (mb + 40) = 40 := (h.2 (57, 40, 15, 40) (by decide)).2.2
theorem mL_heldOn {S : St} {mb j : Nat} (h : MOK S mb) (hj : j < 40) : ldI S (some (mb + 40)) 15 (nI j) = some (mi S (mb + 40) j) := ldI_s (mK_heldOn h) (mN_heldOn h) hj (by decide)
theorem mS_heldOn {S : St} {mb j : Nat} (h : MOK S mb) (hj : j < 40) (v : Int32) : stI S (some (mb + 40)) 15 (nI j) v = some (setI S (mb + 40) j (nrw 15 v)) := stI_s (mK_heldOn h) (mN_heldOn h) hj (by decide) v
theorem mR_late {S : St} {mb : Nat} (h : MOK S mb) : getR S (some mb) 13 58 = some (some (mb + 41)) := by rw [getR_s h.1]; exact congrArg some (h.2 (58, 41, 15, 40) (by decide)).1
theorem mK_late {S : St} {mb : Nat} (h : MOK S mb) : kd S (mb + 41) = 15 := (h.2 (58, 41, 15, 40) (by decide)).2.1
theorem mN_late {S : St} {mb : Nat} (h : MOK S mb) : ln S (mb + 41) = 40 := (h.2 (58, 41, 15, 40) (by decide)).2.2
theorem mL_late {S : St} {mb j : Nat} (h : MOK S mb) (hj : j < 40) : ldI S (some (mb + 41)) 15 (nI j) = some (mi S (mb + 41) j) := ldI_s (mK_late h) (mN_late h) hj (by decide)
theorem mS_late {S : St} {mb j : Nat} (h : MOK S mb) (hj : j < 40) (v : Int32) : stI S (some (mb + 41)) 15 (nI j) v = some (setI S (mb + 41) j (nrw 15 v)) := stI_s (mK_late h) (mN_late h) hj (by decide) v
theorem mR_held {S : St} {mb : Nat} (h : MOK S mb) : getR S (some mb) 13 59 = some (some (mb + 42)) := by rw [getR_s h.1]; exact congrArg some (h.2 (59, 42, 16, 40) (by decide)).1
theorem mK_held {S : St} {mb : Nat} (h : MOK S mb) : kd S (mb + 42) = 16 := (h.2 (59, 42, 16, 40) (by decide)).2.1
theorem mN_held {S : St} {mb : Nat} (h : MOK S mb) : ln S (mb + 42) = 40 := (h.2 (59, 42, 16, 40) (by decide)).2.2
theorem mL_held {S : St} {mb j : Nat} (h : MOK S mb) (hj : j < 40) : ldL S (some (mb + 42)) (nI j) = some (ml S (mb + 42) j) := ldL_s (mK_held h) (mN_held h) hj (by decide)
theorem mS_held {S : St} {mb j : Nat} (h : MOK S mb) (hj : j < 40) (v : Int64) : stL S (some (mb + 42)) (nI j) v = some (setL S (mb + 42) j v) := stL_s (mK_held h) (mN_held h) hj (by decide) v
theorem mR_inSet {S : St} {mb : Nat} (h : MOK S mb) : getR S (some mb) 13 60 = some (some (mb + 43)) := by rw [getR_s h.1]; exact congrArg some (h.2 (60, 43, 15, 8) (by decide)).1
theorem mK_inSet {S : St} {mb : Nat} (h : MOK S mb) : kd S (mb + 43) = 15 := (h.2 (60, 43, 15, 8) (by decide)).2.1
theorem mN_inSet {S : St} {mb : Nat} (h : MOK S mb) : ln S (mb + 43) = 8 := (h.2 (60, 43, 15, 8) (by decide)).2.2
theorem mL_inSet {S : St} {mb j : Nat} (h : MOK S mb) (hj : j < 8) : ldI S (some (mb + 43)) 15 (nI j) = some (mi S (mb + 43) j) := ldI_s (mK_inSet h) (mN_inSet h) hj (by decide)
theorem mS_inSet {S : St} {mb j : Nat} (h : MOK S mb) (hj : j < 8) (v : Int32) : stI S (some (mb + 43)) 15 (nI j) v = some (setI S (mb + 43) j (nrw 15 v)) := stI_s (mK_inSet h) (mN_inSet h) hj (by decide) v
theorem mR_group {S : St} {mb : Nat} (h : MOK S mb) : getR S (some mb) 13 61 = some (some (mb + 44)) := by rw [getR_s h.1]; exact congrArg some (h.2 (61, 44, 15, 8) (by decide)).1
theorem mK_group {S : St} {mb : Nat} (h : MOK S mb) : kd S (mb + 44) = 15 := (h.2 (61, 44, 15, 8) (by decide)).2.1
theorem mN_group {S : St} {mb : Nat} (h : MOK S mb) : ln S (mb + 44) = 8 := (h.2 (61, 44, 15, 8) (by decide)).2.2
theorem mL_group {S : St} {mb j : Nat} (h : MOK S mb) (hj : j < 8) : ldI S (some (mb + 44)) 15 (nI j) = some (mi S (mb + 44) j) := ldI_s (mK_group h) (mN_group h) hj (by decide)
theorem mS_group {S : St} {mb j : Nat} (h : MOK S mb) (hj : j < 8) (v : Int32) : stI S (some (mb + 44)) 15 (nI j) v = some (setI S (mb + 44) j (nrw 15 v)) := stI_s (mK_group h) (mN_group h) hj (by decide) v
theorem mR_together {S : St} {mb : Nat} (h : MOK S mb) : getR S (some mb) 13 62 = some (some (mb + 45)) := by rw [getR_s h.1]; exact congrArg some (h.2 (62, 45, 15, 64) (by decide)).1
theorem mK_together {S : St} {mb : Nat} (h : MOK S mb) : kd S (mb + 45) = 15 := (h.2 (62, 45, 15, 64) (by decide)).2.1
theorem mN_together {S : St} {mb : Nat} (h : MOK S mb) : ln S (mb + 45) = 64 := (h.2 (62, 45, 15, 64) (by decide)).2.2
theorem mL_together {S : St} {mb j : Nat} (h : MOK S mb) (hj : j < 64) : ldI S (some (mb + 45)) 15 (nI j) = some (mi S (mb + 45) j) := ldI_s (mK_together h) (mN_together h) hj (by decide)
theorem mS_together {S : St} {mb j : Nat} (h : MOK S mb) (hj : j < 64) (v : Int32) : stI S (some (mb + 45)) 15 (nI j) v = some (setI S (mb + 45) j (nrw 15 v)) := stI_s (mK_together h) (mN_together h) hj (by decide) v
theorem mR_hasLine {S : St} {mb : Nat} (h : MOK S mb) : getR S (some mb) 13 66 = some (some (mb + 46)) := by rw [getR_s h.1]; exact congrArg some (h.2 (66, 46, 17, 24) (by decide)).1
theorem mK_hasLine {S : St} {mb : Nat} (h : MOK S mb) : kd S (mb + 46) = 17 := (h.2 (66, 46, 17, 24) (by decide)).2.1
theorem mN_hasLine {S : St} {mb : Nat} (h : MOK S mb) : ln S (mb + 46) = 24 := (h.2 (66, 46, 17, 24) (by decide)).2.2
theorem mL_hasLine {S : St} {mb j : Nat} (h : MOK S mb) (hj : j < 24) : ldI S (some (mb + 46)) 17 (nI j) = some (mi S (mb + 46) j) := ldI_s (mK_hasLine h) (mN_hasLine h) hj (by decide)
theorem mS_hasLine {S : St} {mb j : Nat} (h : MOK S mb) (hj : j < 24) (v : Int32) : stI S (some (mb + 46)) 17 (nI j) v = some (setI S (mb + 46) j (nrw 17 v)) := stI_s (mK_hasLine h) (mN_hasLine h) hj (by decide) v
theorem mR_above {S : St} {mb : Nat} (h : MOK S mb) : getR S (some mb) 13 67 = some (some (mb + 47)) := by rw [getR_s h.1]; exact congrArg some (h.2 (67, 47, 16, 24) (by decide)).1
theorem mK_above {S : St} {mb : Nat} (h : MOK S mb) : kd S (mb + 47) = 16 := (h.2 (67, 47, 16, 24) (by decide)).2.1
theorem mN_above {S : St} {mb : Nat} (h : MOK S mb) : ln S (mb + 47) = 24 := (h.2 (67, 47, 16, 24) (by decide)).2.2
theorem mL_above {S : St} {mb j : Nat} (h : MOK S mb) (hj : j < 24) : ldL S (some (mb + 47)) (nI j) = some (ml S (mb + 47) j) := ldL_s (mK_above h) (mN_above h) hj (by decide)
theorem mS_above {S : St} {mb j : Nat} (h : MOK S mb) (hj : j < 24) (v : Int64) : stL S (some (mb + 47)) (nI j) v = some (setL S (mb + 47) j v) := stL_s (mK_above h) (mN_above h) hj (by decide) v
theorem mR_below {S : St} {mb : Nat} (h : MOK S mb) : getR S (some mb) 13 68 = some (some (mb + 48)) := by rw [getR_s h.1]; exact congrArg some (h.2 (68, 48, 16, 24) (by decide)).1
theorem mK_below {S : St} {mb : Nat} (h : MOK S mb) : kd S (mb + 48) = 16 := (h.2 (68, 48, 16, 24) (by decide)).2.1
theorem mN_below {S : St} {mb : Nat} (h : MOK S mb) : ln S (mb + 48) = 24 := (h.2 (68, 48, 16, 24) (by decide)).2.2
theorem mL_below {S : St} {mb j : Nat} (h : MOK S mb) (hj : j < 24) : ldL S (some (mb + 48)) (nI j) = some (ml S (mb + 48) j) := ldL_s (mK_below h) (mN_below h) hj (by decide)
theorem mS_below {S : St} {mb j : Nat} (h : MOK S mb) (hj : j < 24) (v : Int64) : stL S (some (mb + 48)) (nI j) v = some (setL S (mb + 48) j v) := stL_s (mK_below h) (mN_below h) hj (by decide) v
theorem mR_claimBy {S : St} {mb : Nat} (h : MOK S mb) : getR S (some mb) 13 70 = some (some (mb + 49)) := by rw [getR_s h.1]; exact congrArg some (h.2 (70, 49, 15, 60) (by decide)).1
theorem mK_claimBy {S : St} {mb : Nat} (h : MOK S mb) : kd S (mb + 49) = 15 := (h.2 (70, 49, 15, 60) (by decide)).2.1
theorem mN_claimBy {S : St} {mb : Nat} (h : MOK S mb) : ln S (mb + 49) = 60 := (h.2 (70, 49, 15, 60) (by decide)).2.2
theorem mL_claimBy {S : St} {mb j : Nat} (h : MOK S mb) (hj : j < 60) : ldI S (some (mb + 49)) 15 (nI j) = some (mi S (mb + 49) j) := ldI_s (mK_claimBy h) (mN_claimBy h) hj (by decide)
theorem mS_claimBy {S : St} {mb j : Nat} (h : MOK S mb) (hj : j < 60) (v : Int32) : stI S (some (mb + 49)) 15 (nI j) v = some (setI S (mb + 49) j (nrw 15 v)) := stI_s (mK_claimBy h) (mN_claimBy h) hj (by decide) v
theorem mR_claimOn {S : St} {mb : Nat} (h : MOK S mb) : getR S (some mb) 13 71 = some (some (mb + 50)) := by rw [getR_s h.1]; exact congrArg some (h.2 (71, 50, 15, 60) (by decide)).1
theorem mK_claimOn {S : St} {mb : Nat} (h : MOK S mb) : kd S (mb + 50) = 15 := (h.2 (71, 50, 15, 60) (by decide)).2.1
theorem mN_claimOn {S : St} {mb : Nat} (h : MOK S mb) : ln S (mb + 50) = 60 := (h.2 (71, 50, 15, 60) (by decide)).2.2
theorem mL_claimOn {S : St} {mb j : Nat} (h : MOK S mb) (hj : j < 60) : ldI S (some (mb + 50)) 15 (nI j) = some (mi S (mb + 50) j) := ldI_s (mK_claimOn h) (mN_claimOn h) hj (by decide)
theorem mS_claimOn {S : St} {mb j : Nat} (h : MOK S mb) (hj : j < 60) (v : Int32) : stI S (some (mb + 50)) 15 (nI j) v = some (setI S (mb + 50) j (nrw 15 v)) := stI_s (mK_claimOn h) (mN_claimOn h) hj (by decide) v
theorem mR_claimPoints {S : St} {mb : Nat} (h : MOK S mb) : getR S (some mb) 13 72 = some (some (mb + 51)) := by rw [getR_s h.1]; exact congrArg some (h.2 (72, 51, 15, 60) (by decide)).1
theorem mK_claimPoints {S : St} {mb : Nat} (h : MOK S mb) : kd S (mb + 51) = 15 := (h.2 (72, 51, 15, 60) (by decide)).2.1
theorem mN_claimPoints {S : St} {mb : Nat} (h : MOK S mb) : ln S (mb + 51) = 60 := (h.2 (72, 51, 15, 60) (by decide)).2.2
theorem mL_claimPoints {S : St} {mb j : Nat} (h : MOK S mb) (hj : j < 60) : ldI S (some (mb + 51)) 15 (nI j) = some (mi S (mb + 51) j) := ldI_s (mK_claimPoints h) (mN_claimPoints h) hj (by decide)
theorem mS_claimPoints {S : St} {mb j : Nat} (h : MOK S mb) (hj : j < 60) (v : Int32) : stI S (some (mb + 51)) 15 (nI j) v = some (setI S (mb + 51) j (nrw 15 v)) := stI_s (mK_claimPoints h) (mN_claimPoints h) hj (by decide) v
theorem mR_claimFee {S : St} {mb : Nat} (h : MOK S mb) : getR S (some mb) 13 73 = some (some (mb + 52)) := by rw [getR_s h.1]; exact congrArg some (h.2 (73, 52, 15, 60) (by decide)).1
theorem mK_claimFee {S : St} {mb : Nat} (h : MOK S mb) : kd S (mb + 52) = 15 := (h.2 (73, 52, 15, 60) (by decide)).2.1
theorem mN_claimFee {S : St} {mb : Nat} (h : MOK S mb) : ln S (mb + 52) = 60 := (h.2 (73, 52, 15, 60) (by decide)).2.2
theorem mL_claimFee {S : St} {mb j : Nat} (h : MOK S mb) (hj : j < 60) : ldI S (some (mb + 52)) 15 (nI j) = some (mi S (mb + 52) j) := ldI_s (mK_claimFee h) (mN_claimFee h) hj (by decide)
theorem mS_claimFee {S : St} {mb j : Nat} (h : MOK S mb) (hj : j < 60) (v : Int32) : stI S (some (mb + 52)) 15 (nI j) v = some (setI S (mb + 52) j (nrw 15 v)) := stI_s (mK_claimFee h) (mN_claimFee h) hj (by decide) v
theorem mR_claimState {S : St} {mb : Nat} (h : MOK S mb) : getR S (some mb) 13 74 = some (some (mb + 53)) := by rw [getR_s h.1]; exact congrArg some (h.2 (74, 53, 15, 60) (by decide)).1
theorem mK_claimState {S : St} {mb : Nat} (h : MOK S mb) : kd S (mb + 53) = 15 := (h.2 (74, 53, 15, 60) (by decide)).2.1
theorem mN_claimState {S : St} {mb : Nat} (h : MOK S mb) : ln S (mb + 53) = 60 := (h.2 (74, 53, 15, 60) (by decide)).2.2
theorem mL_claimState {S : St} {mb j : Nat} (h : MOK S mb) (hj : j < 60) : ldI S (some (mb + 53)) 15 (nI j) = some (mi S (mb + 53) j) := ldI_s (mK_claimState h) (mN_claimState h) hj (by decide)
theorem mS_claimState {S : St} {mb j : Nat} (h : MOK S mb) (hj : j < 60) (v : Int32) : stI S (some (mb + 53)) 15 (nI j) v = some (setI S (mb + 53) j (nrw 15 v)) := stI_s (mK_claimState h) (mN_claimState h) hj (by decide) v
theorem mR_paid {S : St} {mb : Nat} (h : MOK S mb) : getR S (some mb) 13 75 = some (some (mb + 54)) := by rw [getR_s h.1]; exact congrArg some (h.2 (75, 54, 16, 60) (by decide)).1
theorem mK_paid {S : St} {mb : Nat} (h : MOK S mb) : kd S (mb + 54) = 16 := (h.2 (75, 54, 16, 60) (by decide)).2.1
theorem mN_paid {S : St} {mb : Nat} (h : MOK S mb) : ln S (mb + 54) = 60 := (h.2 (75, 54, 16, 60) (by decide)).2.2
theorem mL_paid {S : St} {mb j : Nat} (h : MOK S mb) (hj : j < 60) : ldL S (some (mb + 54)) (nI j) = some (ml S (mb + 54) j) := ldL_s (mK_paid h) (mN_paid h) hj (by decide)
theorem mS_paid {S : St} {mb j : Nat} (h : MOK S mb) (hj : j < 60) (v : Int64) : stL S (some (mb + 54)) (nI j) v = some (setL S (mb + 54) j v) := stL_s (mK_paid h) (mN_paid h) hj (by decide) v
theorem mR_toFinder {S : St} {mb : Nat} (h : MOK S mb) : getR S (some mb) 13 76 = some (some (mb + 55)) := by rw [getR_s h.1]; exact congrArg some (h.2 (76, 55, 16, 60) (by decide)).1
theorem mK_toFinder {S : St} {mb : Nat} (h : MOK S mb) : kd S (mb + 55) = 16 := (h.2 (76, 55, 16, 60) (by decide)).2.1
theorem mN_toFinder {S : St} {mb : Nat} (h : MOK S mb) : ln S (mb + 55) = 60 := (h.2 (76, 55, 16, 60) (by decide)).2.2
theorem mL_toFinder {S : St} {mb j : Nat} (h : MOK S mb) (hj : j < 60) : ldL S (some (mb + 55)) (nI j) = some (ml S (mb + 55) j) := ldL_s (mK_toFinder h) (mN_toFinder h) hj (by decide)
theorem mS_toFinder {S : St} {mb j : Nat} (h : MOK S mb) (hj : j < 60) (v : Int64) : stL S (some (mb + 55)) (nI j) v = some (setL S (mb + 55) j v) := stL_s (mK_toFinder h) (mN_toFinder h) hj (by decide) v
theorem mR_figures {S : St} {mb : Nat} (h : MOK S mb) : getR S (some mb) 13 77 = some (some (mb + 56)) := by rw [getR_s h.1]; exact congrArg some (h.2 (77, 56, 15, 160) (by decide)).1
theorem mK_figures {S : St} {mb : Nat} (h : MOK S mb) : kd S (mb + 56) = 15 := (h.2 (77, 56, 15, 160) (by decide)).2.1
theorem mN_figures {S : St} {mb : Nat} (h : MOK S mb) : ln S (mb + 56) = 160 := (h.2 (77, 56, 15, 160) (by decide)).2.2
theorem mL_figures {S : St} {mb j : Nat} (h : MOK S mb) (hj : j < 160) : ldI S (some (mb + 56)) 15 (nI j) = some (mi S (mb + 56) j) := ldI_s (mK_figures h) (mN_figures h) hj (by decide)
theorem mS_figures {S : St} {mb j : Nat} (h : MOK S mb) (hj : j < 160) (v : Int32) : stI S (some (mb + 56)) 15 (nI j) v = some (setI S (mb + 56) j (nrw 15 v)) := stI_s (mK_figures h) (mN_figures h) hj (by decide) v
theorem mR_cost {S : St} {mb : Nat} (h : MOK S mb) : getR S (some mb) 13 78 = some (some (mb + 57)) := by rw [getR_s h.1]; exact congrArg some (h.2 (78, 57, 15, 20) (by decide)).1
theorem mK_cost {S : St} {mb : Nat} (h : MOK S mb) : kd S (mb + 57) = 15 := (h.2 (78, 57, 15, 20) (by decide)).2.1
theorem mN_cost {S : St} {mb : Nat} (h : MOK S mb) : ln S (mb + 57) = 20 := (h.2 (78, 57, 15, 20) (by decide)).2.2
theorem mL_cost {S : St} {mb j : Nat} (h : MOK S mb) (hj : j < 20) : ldI S (some (mb + 57)) 15 (nI j) = some (mi S (mb + 57) j) := ldI_s (mK_cost h) (mN_cost h) hj (by decide)
theorem mS_cost {S : St} {mb j : Nat} (h : MOK S mb) (hj : j < 20) (v : Int32) : stI S (some (mb + 57)) 15 (nI j) v = some (setI S (mb + 57) j (nrw 15 v)) := stI_s (mK_cost h) (mN_cost h) hj (by decide) v
theorem mR_most {S : St} {mb : Nat} (h : MOK S mb) : getR S (some mb) 13 79 = some (some (mb + 58)) := by rw [getR_s h.1]; exact congrArg some (h.2 (79, 58, 15, 21000) (by decide)).1
theorem mK_most {S : St} {mb : Nat} (h : MOK S mb) : kd S (mb + 58) = 15 := (h.2 (79, 58, 15, 21000) (by decide)).2.1
theorem mN_most {S : St} {mb : Nat} (h : MOK S mb) : ln S (mb + 58) = 21000 := (h.2 (79, 58, 15, 21000) (by decide)).2.2
theorem mL_most {S : St} {mb j : Nat} (h : MOK S mb) (hj : j < 21000) : ldI S (some (mb + 58)) 15 (nI j) = some (mi S (mb + 58) j) := ldI_s (mK_most h) (mN_most h) hj (by decide)
theorem mS_most {S : St} {mb j : Nat} (h : MOK S mb) (hj : j < 21000) (v : Int32) : stI S (some (mb + 58)) 15 (nI j) v = some (setI S (mb + 58) j (nrw 15 v)) := stI_s (mK_most h) (mN_most h) hj (by decide) v
theorem mR_mostSet {S : St} {mb : Nat} (h : MOK S mb) : getR S (some mb) 13 80 = some (some (mb + 59)) := by rw [getR_s h.1]; exact congrArg some (h.2 (80, 59, 15, 21000) (by decide)).1
theorem mK_mostSet {S : St} {mb : Nat} (h : MOK S mb) : kd S (mb + 59) = 15 := (h.2 (80, 59, 15, 21000) (by decide)).2.1
theorem mN_mostSet {S : St} {mb : Nat} (h : MOK S mb) : ln S (mb + 59) = 21000 := (h.2 (80, 59, 15, 21000) (by decide)).2.2
theorem mL_mostSet {S : St} {mb j : Nat} (h : MOK S mb) (hj : j < 21000) : ldI S (some (mb + 59)) 15 (nI j) = some (mi S (mb + 59) j) := ldI_s (mK_mostSet h) (mN_mostSet h) hj (by decide)
theorem mS_mostSet {S : St} {mb j : Nat} (h : MOK S mb) (hj : j < 21000) (v : Int32) : stI S (some (mb + 59)) 15 (nI j) v = some (setI S (mb + 59) j (nrw 15 v)) := stI_s (mK_mostSet h) (mN_mostSet h) hj (by decide) v
