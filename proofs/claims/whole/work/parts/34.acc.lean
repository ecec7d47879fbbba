/-! WHO IS THERE: the class's look-ups, the reference's ranges -/
theorem i01 {A : Prop} [Decidable A] : ((if A then (1 : Int32) else 0) = 0) = ¬ A := by
  by_cases c : A
  · simp [c]
  · simp [c]
theorem ixc (x : Int32) {n : Nat} (hn : n < 2 ^ 31) : (∃ j, j < n ∧ x = nI j) ∨ ¬ (0 ≤ x.toInt ∧ x.toInt < n) := by
  by_cases c : 0 ≤ x.toInt ∧ x.toInt < n
  · left
    obtain ⟨j, h1, rfl⟩ := nI_of (x := x) (by rw [lt_i]; show ¬ _ < (0 : Int); omega)
    rw [nI_toInt h1] at c
    exact ⟨j, by omega, rfl⟩
  · exact Or.inr c
theorem nI_rng {j n : Nat} (h : j < n) (hn : n < 2 ^ 31) : 0 ≤ (nI j).toInt ∧ (nI j).toInt < n := by
  rw [nI_toInt (by omega)]; omega
theorem JX.op {S : St} {xb : Nat} {M : MI} {L : ML} {g : Gh} (h : JX S xb M L g) : ∃ nf fa np pa na aa ne ea il nc ca, g = ((nf, fa), (np, pa), (na, aa), (ne, ea, il), (nc, ca)) ∧ BS S xb ∧ C0 S xb M ∧ CT S xb M ∧ CY S xb M ∧ CF S xb M nf fa ∧ CP S xb M np pa ∧ CN S M np pa ∧ CA S xb M L nf fa np pa na aa ∧ CE S xb M na aa ne ea il ∧ CC S xb M L np pa na aa nc ca ∧ CL S xb M := by
  obtain ⟨⟨nf, fa⟩, ⟨np, pa⟩, ⟨na, aa⟩, ⟨ne, ea, il⟩, ⟨nc, ca⟩⟩ := g
  exact ⟨nf, fa, np, pa, na, aa, ne, ea, il, nc, ca, rfl, h⟩
theorem JX.mk {S : St} {xb : Nat} {M : MI} {L : ML} {nf np na ne nc : Nat} {fa pa aa ea ca : Nat → Nat} {il : Nat → List Nat} (b : BS S xb) (c0 : C0 S xb M) (ct : CT S xb M) (cy : CY S xb M) (cf : CF S xb M nf fa) (cp : CP S xb M np pa) (cn : CN S M np pa) (ca' : CA S xb M L nf fa np pa na aa) (ce : CE S xb M na aa ne ea il) (cc : CC S xb M L np pa na aa nc ca) (cl : CL S xb M) : JX S xb M L ((nf, fa), (np, pa), (na, aa), (ne, ea, il), (nc, ca)) := ⟨b, c0, ct, cy, cf, cp, cn, ca', ce, cc, cl⟩
/-- a call is through -/
theorem JJ.fin {S S1 S2 : St} {xb k : Nat} {M' : MI} {L' : ML} {g : Gh} (h : JJ S xb (k + 1)) (j : JX S1 xb M' L' g) (hc : cap S1 = cap S) (hn : nx S1 ≤ nx S + 1000) (hs : sl S1 ≤ sl S + 14000) (q : Fr (Pm xb) S1 S2) (hr : mr S2 = mr S1) (hn2 : nx S2 = nx S1) (hs2 : sl S2 = sl S1) (eM : PeqI M' (Mi S2 (xb + 22))) (eL : PeqL L' (Ml S2 (xb + 22))) : JJ S2 xb k := by
  obtain ⟨-, h1, h2⟩ := h
  refine ⟨⟨g, j.mod q hr hn2 eM eL⟩, ?_, ?_⟩
  · rw [q.capE, hc]; omega
  · omega
theorem JJ.le {S : St} {xb k : Nat} (h : JJ S xb (k + 1)) : JJ S xb k := ⟨h.1, by have := h.2.1; omega, by have := h.2.2; omega⟩
theorem JJ.same {S : St} {xb k : Nat} (h : JJ S xb (k + 1)) {g : Gh} {M' : MI} {L' : ML} {S2 : St} (j : JX S xb M' L' g) (q : Fr (Pm xb) S S2) (hr : mr S2 = mr S) (hn2 : nx S2 = nx S) (hs2 : sl S2 = sl S) (eM : PeqI M' (Mi S2 (xb + 22))) (eL : PeqL L' (Ml S2 (xb + 22))) : JJ S2 xb k := h.fin j rfl (by omega) (by omega) q hr hn2 hs2 eM eL
theorem Fr_m {S : St} {xb o : Nat} (m : MOK S (xb + 22)) (ho : o < 60) (i : Nat) (v : Int32) : Fr (Pm xb) S (setI S (xb + 22 + o) i v) := Fr_setI i v (by have := mKind m (a := xb + 22 + o) (by omega) (by omega); omega) (fun _ => ⟨by omega, by omega⟩)
theorem Fr_m0 {S : St} {xb : Nat} (m : MOK S (xb + 22)) (i : Nat) (v : Int32) : Fr (Pm xb) S (setI S (xb + 22) i v) := Fr_m (o := 0) m (by omega) i v
theorem Fr_ml {S : St} {xb o : Nat} (ho : o < 60) (i : Nat) (v : Int64) : Fr (Pm xb) S (setL S (xb + 22 + o) i v) := Fr_setL i v (fun _ => ⟨by omega, by omega⟩)
theorem Fr.m2 {A B C : St} {xb : Nat} (h : Fr (Pm xb) A B) (k : Fr (Pm xb) B C) : Fr (Pm xb) A C := h.tr k (fun _ _ q => q)
theorem X_isPast {S : St} {xb : Nat} (x : XOK S xb) (d : Int32) : f_X11_isPast S xb d = some (if 0 ≤ d.toInt ∧ d.toInt ≤ (mi S xb 0).toInt then 1 else 0) := by
  unfold f_X11_isPast
  simp only [xI x, Option.bind_some, lt_i]
  have z : (0 : Int32).toInt = 0 := rfl
  rw [z]
  repeat' split
  all_goals first | rfl | (exfalso; omega)
theorem M_isPast {S : St} {mb : Nat} (m : MOK S mb) (d : Int32) : f_X12_isPast S mb d = some (if 0 ≤ d.toInt ∧ d.toInt ≤ (mi S mb 0).toInt then 1 else 0) := by
  unfold f_X12_isPast
  simp only [mI m, Option.bind_some, M_isIn]
  have z : (0 : Int32).toInt = 0 := rfl
  rw [z]
  split <;> rfl
theorem M_isState {S : St} (d : Int32) : f_X12_isState S d = some (if 0 ≤ d.toInt ∧ d.toInt < 4 then 1 else 0) := by
  unfold f_X12_isState
  simp only [Option.bind_some, M_isIn]
  have z : (0 : Int32).toInt = 0 := rfl
  have z3 : (3 : Int32).toInt = 3 := rfl
  rw [z, z3]
  by_cases c : 0 ≤ d.toInt ∧ d.toInt < 4
  · rw [if_pos (by omega), if_pos c]; rfl
  · rw [if_neg (by omega), if_neg c]; rfl
theorem nIm1 {n : Nat} (h : n < 2 ^ 31) : (nI n - 1).toInt = (n : Int) - 1 := by
  have := nI_toInt h
  rw [sub_i] <;> rw [this] <;> show _ <;> simp <;> omega
theorem X_firmAt {S : St} {xb n i : Nat} {f : Nat → Nat} (x : XOK S xb) (h : LI S (xb + 1) n f) (hk : kd S (f i) = 5) (hi : i < n) : f_X11_firmAt S xb (nI i) = some (some (f i)) := by
  unfold f_X11_firmAt
  have hn : n < 100000 := h.2.2.1
  rw [if_neg (nI_pos (by omega))]
  simp only [xR_firms x, xV_firms x, Option.bind_some, L_size h, if_pos (nI_lt hi (show n < 2 ^ 31 by omega)), L_get h hi, castO_s hk]
theorem X_firmAt_n {S : St} {xb n : Nat} {f : Nat → Nat} {d : Int32} (x : XOK S xb) (h : LI S (xb + 1) n f) (hd : ¬ (0 ≤ d.toInt ∧ d.toInt < n)) : f_X11_firmAt S xb d = some none := by
  unfold f_X11_firmAt
  have hn : n < 100000 := h.2.2.1
  have z : (0 : Int32).toInt = 0 := rfl
  by_cases c : d.toInt < 0
  · rw [if_pos (by rw [lt_i, z]; exact c)]
  · rw [if_neg (by rw [lt_i, z]; exact c)]
    simp only [xR_firms x, xV_firms x, Option.bind_some, L_size h]
    rw [if_neg (by rw [lt_i, nI_toInt (by omega)]; omega)]
theorem M_isFirm {S : St} {mb n i : Nat} (m : MOK S mb) (h : mi S mb 1 = nI n) (hn : n < 1000) (hi : i < n) : f_X12_isFirm S mb (nI i) = some 1 := by
  unfold f_X12_isFirm
  have z : (0 : Int32).toInt = 0 := rfl
  simp only [mI m, h, Option.bind_some, M_isIn, z, nIm1 (show n < 2 ^ 31 by omega), nI_toInt (show i < 2 ^ 31 by omega)]
  rw [if_pos (by omega)]; rfl
theorem M_isFirm_n {S : St} {mb n : Nat} {d : Int32} (m : MOK S mb) (h : mi S mb 1 = nI n) (hn : n < 1000) (hd : ¬ (0 ≤ d.toInt ∧ d.toInt < n)) : f_X12_isFirm S mb d = some 0 := by
  unfold f_X12_isFirm
  have z : (0 : Int32).toInt = 0 := rfl
  simp only [mI m, h, Option.bind_some, M_isIn, z, nIm1 (show n < 2 ^ 31 by omega)]
  rw [if_neg (by omega)]; rfl
theorem X_personAt {S : St} {xb n i : Nat} {f : Nat → Nat} (x : XOK S xb) (h : LI S (xb + 2) n f) (hk : kd S (f i) = 9) (hi : i < n) : f_X11_personAt S xb (nI i) = some (some (f i)) := by
  unfold f_X11_personAt
  have hn : n < 100000 := h.2.2.1
  rw [if_neg (nI_pos (by omega))]
  simp only [xR_persons x, xV_persons x, Option.bind_some, L_size h, if_pos (nI_lt hi (show n < 2 ^ 31 by omega)), L_get h hi, castO_s hk]
theorem X_personAt_n {S : St} {xb n : Nat} {f : Nat → Nat} {d : Int32} (x : XOK S xb) (h : LI S (xb + 2) n f) (hd : ¬ (0 ≤ d.toInt ∧ d.toInt < n)) : f_X11_personAt S xb d = some none := by
  unfold f_X11_personAt
  have hn : n < 100000 := h.2.2.1
  have z : (0 : Int32).toInt = 0 := rfl
  by_cases c : d.toInt < 0
  · rw [if_pos (by rw [lt_i, z]; exact c)]
  · rw [if_neg (by rw [lt_i, z]; exact c)]
    simp only [xR_persons x, xV_persons x, Option.bind_some, L_size h]
    rw [if_neg (by rw [lt_i, nI_toInt (by omega)]; omega)]
theorem M_isPerson {S : St} {mb n i : Nat} (m : MOK S mb) (h : mi S mb 2 = nI n) (hn : n < 1000) (hi : i < n) : f_X12_isPerson S mb (nI i) = some 1 := by
  unfold f_X12_isPerson
  have z : (0 : Int32).toInt = 0 := rfl
  simp only [mI m, h, Option.bind_some, M_isIn, z, nIm1 (show n < 2 ^ 31 by omega), nI_toInt (show i < 2 ^ 31 by omega)]
  rw [if_pos (by omega)]; rfl
theorem M_isPerson_n {S : St} {mb n : Nat} {d : Int32} (m : MOK S mb) (h : mi S mb 2 = nI n) (hn : n < 1000) (hd : ¬ (0 ≤ d.toInt ∧ d.toInt < n)) : f_X12_isPerson S mb d = some 0 := by
  unfold f_X12_isPerson
  have z : (0 : Int32).toInt = 0 := rfl
  simp only [mI m, h, Option.bind_some, M_isIn, z, nIm1 (show n < 2 ^ 31 by omega)]
  rw [if_neg (by omega)]; rfl
theorem X_accountAt {S : St} {xb n i : Nat} {f : Nat → Nat} (x : XOK S xb) (h : LI S (xb + 3) n f) (hk : kd S (f i) = 1) (hi : i < n) : f_X11_accountAt S xb (nI i) = some (some (f i)) := by
  unfold f_X11_accountAt
  have hn : n < 100000 := h.2.2.1
  rw [if_neg (nI_pos (by omega))]
  simp only [xR_accounts x, xV_accounts x, Option.bind_some, L_size h, if_pos (nI_lt hi (show n < 2 ^ 31 by omega)), L_get h hi, castO_s hk]
theorem X_accountAt_n {S : St} {xb n : Nat} {f : Nat → Nat} {d : Int32} (x : XOK S xb) (h : LI S (xb + 3) n f) (hd : ¬ (0 ≤ d.toInt ∧ d.toInt < n)) : f_X11_accountAt S xb d = some none := by
  unfold f_X11_accountAt
  have hn : n < 100000 := h.2.2.1
  have z : (0 : Int32).toInt = 0 := rfl
  by_cases c : d.toInt < 0
  · rw [if_pos (by rw [lt_i, z]; exact c)]
  · rw [if_neg (by rw [lt_i, z]; exact c)]
    simp only [xR_accounts x, xV_accounts x, Option.bind_some, L_size h]
    rw [if_neg (by rw [lt_i, nI_toInt (by omega)]; omega)]
theorem M_isAccount {S : St} {mb n i : Nat} (m : MOK S mb) (h : mi S mb 3 = nI n) (hn : n < 1000) (hi : i < n) : f_X12_isAccount S mb (nI i) = some 1 := by
  unfold f_X12_isAccount
  have z : (0 : Int32).toInt = 0 := rfl
  simp only [mI m, h, Option.bind_some, M_isIn, z, nIm1 (show n < 2 ^ 31 by omega), nI_toInt (show i < 2 ^ 31 by omega)]
  rw [if_pos (by omega)]; rfl
theorem M_isAccount_n {S : St} {mb n : Nat} {d : Int32} (m : MOK S mb) (h : mi S mb 3 = nI n) (hn : n < 1000) (hd : ¬ (0 ≤ d.toInt ∧ d.toInt < n)) : f_X12_isAccount S mb d = some 0 := by
  unfold f_X12_isAccount
  have z : (0 : Int32).toInt = 0 := rfl
  simp only [mI m, h, Option.bind_some, M_isIn, z, nIm1 (show n < 2 ^ 31 by omega)]
  rw [if_neg (by omega)]; rfl
theorem X_claimAt {S : St} {xb n i : Nat} {f : Nat → Nat} (x : XOK S xb) (h : LI S (xb + 4) n f) (hk : kd S (f i) = 3) (hi : i < n) : f_X11_claimAt S xb (nI i) = some (some (f i)) := by
  unfold f_X11_claimAt
  have hn : n < 100000 := h.2.2.1
  rw [if_neg (nI_pos (by omega))]
  simp only [xR_claims x, xV_claims x, Option.bind_some, L_size h, if_pos (nI_lt hi (show n < 2 ^ 31 by omega)), L_get h hi, castO_s hk]
theorem X_claimAt_n {S : St} {xb n : Nat} {f : Nat → Nat} {d : Int32} (x : XOK S xb) (h : LI S (xb + 4) n f) (hd : ¬ (0 ≤ d.toInt ∧ d.toInt < n)) : f_X11_claimAt S xb d = some none := by
  unfold f_X11_claimAt
  have hn : n < 100000 := h.2.2.1
  have z : (0 : Int32).toInt = 0 := rfl
  by_cases c : d.toInt < 0
  · rw [if_pos (by rw [lt_i, z]; exact c)]
  · rw [if_neg (by rw [lt_i, z]; exact c)]
    simp only [xR_claims x, xV_claims x, Option.bind_some, L_size h]
    rw [if_neg (by rw [lt_i, nI_toInt (by omega)]; omega)]
theorem LI.gk {S S' : St} {P : Nat → Prop} {l n K : Nat} {f : Nat → Nat} (h : LI S l n f) (w : WFS S) (q : Fr P S S') (hP : ∀ a, P a → kd S a = K) (hK : K ≠ 0 ∧ K ≠ 20) : LI S' l n f :=
  h.go w q (fun a c => ⟨fun e => by have := hP a c; rw [e, h.1] at this; omega, fun e => by have := hP a c; omega⟩)
theorem CF.inj {S : St} {xb : Nat} {M : MI} {nf : Nat} {fa : Nat → Nat} (h : CF S xb M nf fa) {i j : Nat} (hi : i < nf) (hj : j < nf) (e : fa i = fa j) : i = j := by
  have a := (h.2.2.2.1 i hi).2.2.1
  have c := (h.2.2.2.1 j hj).2.2.1
  rw [e, c, nI_eq (by have := h.2.1; omega) (by have := h.2.1; omega)] at a
  exact a.symm
theorem CP.inj {S : St} {xb : Nat} {M : MI} {nf : Nat} {fa : Nat → Nat} (h : CP S xb M nf fa) {i j : Nat} (hi : i < nf) (hj : j < nf) (e : fa i = fa j) : i = j := by
  have a := (h.2.2.2 i hi).2.2.1
  have c := (h.2.2.2 j hj).2.2.1
  rw [e, c, nI_eq (by have := h.2.1; omega) (by have := h.2.1; omega)] at a
  exact a.symm
theorem CA.inj {S : St} {xb : Nat} {M : MI} {L : ML} {nf np na : Nat} {fa pa aa : Nat → Nat} (h : CA S xb M L nf fa np pa na aa) {i j : Nat} (hi : i < na) (hj : j < na) (e : aa i = aa j) : i = j := by
  have a := (h.2.2.2 i hi).2.2.1
  have c := (h.2.2.2 j hj).2.2.1
  rw [e, c, nI_eq (by have := h.2.1; omega) (by have := h.2.1; omega)] at a
  exact a.symm
theorem sFi (P : Prop) [Decidable P] {α : Type} {a b : α} (h : P) : (if P then a else b) = a := if_pos h
theorem JX.un {S : St} {xb : Nat} {M : MI} {L : ML} {nf np na ne nc : Nat} {fa pa aa ea ca : Nat → Nat} {il : Nat → List Nat} (h : JX S xb M L ((nf, fa), (np, pa), (na, aa), (ne, ea, il), (nc, ca))) : BS S xb ∧ C0 S xb M ∧ CT S xb M ∧ CY S xb M ∧ CF S xb M nf fa ∧ CP S xb M np pa ∧ CN S M np pa ∧ CA S xb M L nf fa np pa na aa ∧ CE S xb M na aa ne ea il ∧ CC S xb M L np pa na aa nc ca ∧ CL S xb M := h
def upL (f : Nat → List Nat) (n : Nat) (v : List Nat) : Nat → List Nat := fun z => if z = n then v else f z
theorem upL_ne (f : Nat → List Nat) {n z : Nat} {v : List Nat} (h : z ≠ n) : upL f n v z = f z := by unfold upL; rw [if_neg h]
theorem upL_eq (f : Nat → List Nat) (n : Nat) (v : List Nat) : upL f n v n = v := by unfold upL; rw [if_pos rfl]
