def gnv (g : Nat → Int32) (y : Nat) : Int32 := gsv g y - lsv g y
theorem gnv_bd {g : Nat → Int32} (hg : gOK g) {y : Nat} (hy : y < 20) : 0 ≤ (gnv g y).toInt ∧ (gnv g y).toInt ≤ 999999 := by
  have a1 := fah_in hg y hy
  have b1 := fbe_in hg (20 - y) y (by omega)
  have n1 : (-1 : Int32).toInt = -1 := rfl
  have z0 : (0 : Int32).toInt = 0 := rfl
  have key : 0 ≤ (lsv g y).toInt ∧ (lsv g y).toInt ≤ (gsv g y).toInt ∧ (gsv g y).toInt ≤ 999999 := by
    unfold lsv gsv
    obtain ⟨a, ha⟩ : ∃ a, a = fah g y := ⟨_, rfl⟩
    obtain ⟨b, hb⟩ : ∃ b, b = fbe g (20 - y) y := ⟨_, rfl⟩
    rw [← ha] at a1 ⊢
    rw [← hb] at b1 ⊢
    have ea : (a = -1) ↔ a.toInt = -1 := eq_i a (-1)
    have eb : (b = -1) ↔ b.toInt = -1 := eq_i b (-1)
    repeat' split
    all_goals simp only [lt_i, ea, eb, z0] at *
    all_goals omega
  unfold gnv
  rw [sub_i (by omega) (by omega)]
  omega
theorem gnv_run {g : Nat → Int32} {y : Nat} (hy : y + 1 < 20) (h1 : g y = -1) (h2 : g (y + 1) = -1) : gnv g (y + 1) = gnv g y := by
  have e1 : fah g (y + 1) = fah g y := by
    show (if g (y + 1) = -1 then fah g y else g (y + 1)) = _
    rw [if_pos h2]
  have e2 : fbe g (20 - y) y = fbe g (20 - (y + 1)) (y + 1) := by
    obtain ⟨n, hn⟩ : ∃ n, 20 - y = n + 1 := ⟨19 - y, by omega⟩
    rw [hn, show 20 - (y + 1) = n by omega]
    show (if g y = -1 then fbe g n (y + 1) else g y) = _
    rw [if_pos h1]
  unfold gnv gsv lsv
  rw [e1, e2]
theorem JX.ph {S T : St} {xb : Nat} {M : MI} {L : ML} {g : Gh} (j : JX S xb M L g) (w : SW (PH xb) S T) : JX T xb M L g := by
  have x := j.1.2.2.1
  have kk : ∀ a, PH xb a → kd S a = 2 ∨ kd S a = 16 ∨ kd S a = 15 := fun a c => by
    unfold PH at c
    have : a = xb + 18 ∨ a = xb + 19 ∨ a = xb + 20 ∨ a = xb + 21 := by omega
    rcases this with e | e | e | e
    · rw [e]; exact Or.inl (xK_chooser x)
    · rw [e]; exact Or.inr (Or.inl (xK_cworth x))
    · rw [e]; exact Or.inr (Or.inr (xK_cprice x))
    · rw [e]; exact Or.inr (Or.inr (xK_cnext x))
  have F : Fr (PH xb) S T := w.fr (fun a c => by have := kk a c; omega)
  refine j.go F (j.1.fr F (fun a _ => by rw [w.mr]) (fun a ha => by rw [w.kd]; have := j.1.1 a ha; omega)) (fun a c => ?_) (PeqI.rf _) (PeqL.rf _)
  have k := kk a c
  unfold PH at c
  unfold okp
  omega
def pcv (M : MI) (y : Nat) : Nat := if y < 20 then (M 57 y).toNatClampNeg else 0
def wvv (M : MI) (f y : Nat) : Int := if y < 20 then (gnv (fgs M f) y).toInt * 2147483648 - (pcv M y : Int) * 1048576 - 2 ^ y else 0
def Wvv (M : MI) (f y : Nat) : Int64 := wE (gnv (fgs M f) y) (nI (pcv M y)) y
def DM (M : MI) (f : Nat) (cl : List Nat) (i k : Nat) : Prop := pcv M (cl.getD i 0) ≤ pcv M (cl.getD k 0) ∧ wvv M f (cl.getD k 0) ≤ wvv M f (cl.getD i 0)
def fil (M : MI) (f y : Nat) : List Nat := (List.range y).filter (fun z => decide (fgs M f z = -1 ∧ 0 < (gnv (fgs M f) z).toInt))
def CI (T : St) (xb : Nat) (M : MI) (f : Nat) (cl : List Nat) (s y : Nat) (nr : Nat → Nat) : Prop := mi T (xb + 18) 3 = nI cl.length ∧ cl.length ≤ y ∧ s ≤ cl.length ∧ (∀ i, i < cl.length → RW T xb (pcv M) (Wvv M f) i (cl.getD i 0) ∧ cl.getD i 0 < y) ∧ (∀ i, i < s → mi T (xb + 21) i = nI (nr i) ∧ i < nr i ∧ nr i ≤ s ∧ ∀ k, i < k → k < nr i → DM M f cl i k) ∧ (∀ i k, s ≤ i → i < k → k < cl.length → DM M f cl i k) ∧ (∀ i, s ≤ i → i < cl.length → 0 < y ∧ fgs M f (y - 1) = -1 ∧ gnv (fgs M f) (cl.getD i 0) = gnv (fgs M f) (y - 1)) ∧ cl.Perm (fil M f y)
section Choose
variable {S : St} {xb nf np na ne nc f : Nat} {M : MI} {L : ML} {fa pa aa ea ca : Nat → Nat} {il : Nat → List Nat}
theorem pcv_le (cy : CY S xb M) (y : Nat) : pcv M y ≤ 99 := by
  unfold pcv
  split
  · rename_i h
    have := (cy y h).2
    have e : ((M 57 y).toNatClampNeg : Int) = (M 57 y).toInt := Int.toNat_of_nonneg (by omega)
    omega
  · omega
theorem pcv_e (cy : CY S xb M) {y : Nat} (h : y < 20) : M 57 y = nI (pcv M y) ∧ 1 ≤ pcv M y := by
  have := (cy y h).2
  have e : ((M 57 y).toNatClampNeg : Int) = (M 57 y).toInt := Int.toNat_of_nonneg (by omega)
  unfold pcv
  rw [if_pos h]
  exact ⟨(eq_i _ _).mpr (by rw [nI_toInt (by omega)]; exact e.symm), by omega⟩
theorem Wvv_i (cy : CY S xb M) (hg : gOK (fgs M f)) {y : Nat} (h : y < 20) : (Wvv M f y).toInt = wvv M f y := by
  have hp := pcv_le cy y
  have e : (nI (pcv M y)).toInt = (pcv M y : Int) := nI_toInt (by omega)
  unfold Wvv wvv
  rw [if_pos h, wE_i h (gnv_bd hg h) (by omega), e]
theorem wvv_bd (cy : CY S xb M) (hg : gOK (fgs M f)) (y : Nat) : -4503599627370496 ≤ wvv M f y ∧ wvv M f y ≤ 4503599627370496 := by
  have hp := pcv_le cy y
  unfold wvv
  split
  · rename_i h
    have h1 := gnv_bd hg h
    have h2 := p2_le h
    omega
  · omega
theorem X_isGap {T : St} (cf : CF T xb M nf fa) (hf : f < nf) {y : Nat} (hy : y < 20) : f_X4_isGap T (fa f) (nI y) = some (if fgs M f y = -1 then 1 else 0) := by
  obtain ⟨hk, -, -, -, -, hr, ke, le, hv, -⟩ := cf.2.2.2.1 f hf
  unfold f_X4_isGap
  simp only [getR_s hk, hr, Option.bind_some, alen_s (show 14 ≤ kd T (fa f + 1) ∧ kd T (fa f + 1) ≤ 20 by omega) le, X_isWithin, i01, nI_toInt (show y < 2 ^ 31 by omega), nI_toInt (show 20 < 2 ^ 31 by decide), ldI_s ke le hy (by decide), (hv y hy).1]
  rw [if_neg (by omega)]
  show (if fgs M f y = -1 then some 1 else some 0) = _
  split <;> rfl
theorem X_c11 {x3 x4 : Int32} (j : JX S xb M L ((nf, fa), (np, pa), (na, aa), (ne, ea, il), (nc, ca))) (hf : f < nf) : ∀ (r y fu s : Nat) (T : St) (cl : List Nat) (nr : Nat → Nat), y + r = 20 → r < fu → SW (PH xb) S T → CI T xb M f cl s y nr → ∃ T' s' cl' nr', f_X1_choose_11 fu T (xb + 18) (some (fa f)) (some (xb + 17)) x3 x4 (nI s) (nI y) = some (xb + 18, x3, x4, nI s', T') ∧ SW (PH xb) S T' ∧ CI T' xb M f cl' s' 20 nr' := by
  have cy : CY S xb M := j.un.2.2.2.1
  have hg : gOK (fgs M f) := j.un.2.2.2.2.1.gok hf
  intro r
  induction r with
  | zero =>
    intro y fu s T cl nr e1 e2 w hC
    obtain ⟨fu, rfl⟩ : ∃ k, fu = k + 1 := ⟨fu - 1, by omega⟩
    have : y = 20 := by omega
    subst this
    unfold f_X1_choose_11
    rw [if_pos (by decide)]
    exact ⟨T, s, cl, nr, rfl, w, hC⟩
  | succ r ih =>
    intro y fu s T cl nr e1 e2 w hC
    obtain ⟨fu, rfl⟩ : ∃ k, fu = k + 1 := ⟨fu - 1, by omega⟩
    obtain ⟨bT, -, -, cyT, cfT, -⟩ := (j.ph w).un
    have xT := bT.2.2.1
    have hk := (cfT.2.2.2.1 f hf).1
    have y20 : y < 20 := by omega
    obtain ⟨h1, h2, h3, h4, h5, h6, h7, h8⟩ := hC
    obtain ⟨pe, p1⟩ := pcv_e cy y20
    have e17 : mi T (xb + 17) y = nI (pcv M y) := by rw [(cyT y y20).1]; exact pe
    unfold f_X1_choose_11
    rw [if_neg (by rw [le_i, nI_toInt (by omega)]; simp only [Int32.reduceToInt]; omega)]
    simp only [xZ_costs xT, Option.bind_some]
    rw [if_neg (by rw [le_i, nI_toInt (by omega)]; simp only [Int32.reduceToInt]; omega)]
    simp only [rcv_s hk, X_isGap cfT hf y20, X_great cfT hf y20, X_least cfT hf y20, xL_costs xT y20, e17, xV_chooser xT, Option.bind_some, i01, nI_1]
    have ge : gsv (fgs M f) y - lsv (fgs M f) y = gnv (fgs M f) y := rfl
    rw [ge]
    have fs_ : fil M f (y + 1) = fil M f y ++ (if fgs M f y = -1 ∧ 0 < (gnv (fgs M f) y).toInt then [y] else []) := by
      unfold fil
      rw [List.range_succ, List.filter_append, fil1]
      by_cases q : fgs M f y = -1 ∧ 0 < (gnv (fgs M f) y).toInt
      · rw [if_pos (decide_eq_true q), if_pos q]
      · rw [if_neg (fun z => q (of_decide_eq_true z)), if_neg q]
    by_cases gap : fgs M f y = -1
    · rw [if_neg (fun z => z gap)]
      -- the gain of a run
      have run : ∀ i, s ≤ i → i < cl.length → gnv (fgs M f) (cl.getD i 0) = gnv (fgs M f) y := fun i q1 q2 => by
        obtain ⟨z0, z1, z2⟩ := h7 i q1 q2
        rw [z2]
        have := gnv_run (y := y - 1) (by omega) z1 (by rw [show y - 1 + 1 = y by omega]; exact gap)
        rw [show y - 1 + 1 = y by omega] at this
        exact this.symm
      by_cases pos : 0 < (gnv (fgs M f) y).toInt
      · obtain ⟨e, A, a1, a2, a3, a4, a5, a6, a7, a8, a9⟩ := X_addGap (gv := gnv (fgs M f) y) (y := y) (s := s) (W := Wvv M f) (pcv_le cy) xT h1 (by omega) h3 (fun i hi => (h4 i hi).1) rfl rfl pos
        rw [a1]
        simp only [Option.bind_some]
        have len' : (cl.take e ++ y :: cl.drop e).length = cl.length + 1 := by
          rw [List.length_append, List.length_cons, List.length_take, List.length_drop]
          omega
        have wy : ∀ z, z < 20 → wvv M f z = (gnv (fgs M f) z).toInt * 2147483648 - (pcv M z : Int) * 1048576 - 2 ^ z := fun z hz => if_pos hz
        refine ih (y + 1) fu s A (cl.take e ++ y :: cl.drop e) nr (by omega) (by omega) (w.tr a2) ⟨by rw [len']; exact a6, by rw [len']; omega, by rw [len']; omega, fun i hi => ?_, fun i hi => ?_, fun i k q1 q2 q3 => ?_, fun i q1 q2 => ⟨by omega, gap, ?_⟩, ?_⟩
        · rw [len'] at hi
          refine ⟨a7 i hi, ?_⟩
          rw [insd_g a5]
          split
          · have := (h4 i (by omega)).2; omega
          · split
            · omega
            · have := (h4 (i - 1) (by omega)).2; omega
        · obtain ⟨b1, b2, b3, b4⟩ := h5 i hi
          refine ⟨by rw [a3]; exact b1, b2, b3, fun k q1 q2 => ?_⟩
          have := b4 k q1 q2
          unfold DM at this ⊢
          rw [insd_g a5, insd_g a5, if_pos (by omega), if_pos (by omega)]
          exact this
        · rw [len'] at q3
          unfold DM
          rw [insd_g a5, insd_g a5]
          have old : ∀ i, s ≤ i → i < cl.length → wvv M f (cl.getD i 0) = (gnv (fgs M f) y).toInt * 2147483648 - (pcv M (cl.getD i 0) : Int) * 1048576 - 2 ^ (cl.getD i 0) ∧ (1 : Int) ≤ 2 ^ (cl.getD i 0) ∧ (2 : Int) ^ (cl.getD i 0) ≤ 2 ^ y := fun i q1 q2 => by
            have hi20 := (h4 i q2).2
            refine ⟨?_, (p2_le (show cl.getD i 0 < 20 by omega)).1, ?_⟩
            · rw [wy _ (by omega), run i q1 q2]
            · have hh : (2 : Nat) ^ (cl.getD i 0) ≤ 2 ^ y := Nat.pow_le_pow_right (by omega) (by omega)
              exact_mod_cast hh
          have wyy := wy y y20
          have py := p2_le y20
          rcases Nat.lt_trichotomy i e with c | c | c
          · rw [if_pos c]
            rcases Nat.lt_trichotomy k e with d | d | d
            · rw [if_pos d]
              exact h6 i k q1 q2 (by omega)
            · rw [if_neg (by omega), if_pos d]
              have pl_ : pcv M (cl.getD i 0) ≤ pcv M y := by
                have z1 := a9 (by omega)
                by_cases z : i = e - 1
                · rw [z]; exact z1
                · exact Nat.le_trans (h6 i (e - 1) q1 (by omega) (by omega)).1 z1
              obtain ⟨o1, o2, o3⟩ := old i q1 (by omega)
              refine ⟨pl_, ?_⟩
              rw [wyy, o1]
              omega
            · rw [if_neg (by omega), if_neg (by omega)]
              exact h6 i (k - 1) q1 (by omega) (by omega)
          · rw [if_neg (by omega), if_pos c, if_neg (by omega), if_neg (by omega)]
            have z1 := a8 (k - 1) (by omega) (by omega)
            obtain ⟨o1, o2, o3⟩ := old (k - 1) (by omega) (by omega)
            refine ⟨by omega, ?_⟩
            rw [wyy, o1]
            omega
          · rw [if_neg (by omega), if_neg (by omega), if_neg (by omega), if_neg (by omega)]
            exact h6 (i - 1) (k - 1) (by omega) (by omega) (by omega)
        · rw [len'] at q2
          rw [insd_g a5, show y + 1 - 1 = y by omega]
          split
          · exact run i q1 (by omega)
          · split
            · rfl
            · exact run (i - 1) (by omega) (by omega)
        · rw [fs_, if_pos ⟨gap, pos⟩]
          refine List.perm_middle.trans ?_
          rw [List.take_append_drop]
          exact (h8.cons y).trans (List.perm_append_singleton y (fil M f y)).symm
      · have ng : f_X1_addGap T (xb + 18) (nI s) (nI y) (gnv (fgs M f) y) (nI (pcv M y)) = some T := by
          unfold f_X1_addGap
          rw [if_pos (by rw [le_i]; simp only [Int32.reduceToInt]; omega)]
        rw [ng]
        simp only [Option.bind_some]
        refine ih (y + 1) fu s T cl nr (by omega) (by omega) w ⟨h1, by omega, h3, fun i hi => ⟨(h4 i hi).1, by have := (h4 i hi).2; omega⟩, h5, h6, fun i q1 q2 => ⟨by omega, gap, run i q1 q2⟩, ?_⟩
        rw [fs_, if_neg (fun z => pos z.2), List.append_nil]
        exact h8
    · rw [if_pos gap]
      obtain ⟨A, a1, a2, a3, a4⟩ := X_cr2 (xb := xb) (n := cl.length) (by omega) (cl.length - s) s FU T (by omega) (by unfold FU; omega) xT h1
      unfold f_X1_closeRun
      rw [a1]
      have xA := xT.sw a2
      have i3 : mi A (xb + 18) 3 = nI cl.length := by rw [(a2.2.2.2 (xb + 18) (by omega)).1]; exact h1
      simp only [Option.bind_some, getI_s (xK_chooser xA), i3]
      have wA : SW (PH xb) S A := w.tr (a2.mono (fun z hz => by unfold PH; omega))
      refine ih (y + 1) fu cl.length A cl (fun i => if i < s then nr i else cl.length) (by omega) (by omega) wA ⟨i3, by omega, Nat.le_refl _, fun i hi => ?_, fun i hi => ?_, fun i k q1 q2 q3 => by omega, fun i q1 q2 => by omega, ?_⟩
      · obtain ⟨⟨z1, z2⟩, z3⟩ := h4 i hi
        exact ⟨⟨by rw [(a2.2.2.2 (xb + 20) (by omega)).1]; exact z1, by rw [(a2.2.2.2 (xb + 19) (by omega)).2]; exact z2⟩, by omega⟩
      · by_cases c : i < s
        · obtain ⟨b1, b2, b3, b4⟩ := h5 i c
          simp only [if_pos c]
          exact ⟨by rw [a4 i c]; exact b1, b2, by omega, b4⟩
        · simp only [if_neg c]
          exact ⟨a3 i (by omega) hi, hi, Nat.le_refl _, fun k q1 q2 => h6 i k (by omega) q1 q2⟩
      · rw [fs_, if_neg (fun z => gap z.1), List.append_nil]
        exact h8
end Choose
