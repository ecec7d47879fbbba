/-! LOOKS: the class's search -/
theorem addL_i {a b : Int64} (h1 : -9223372036854775808 ≤ a.toInt + b.toInt) (h2 : a.toInt + b.toInt < 9223372036854775808) : (a + b).toInt = a.toInt + b.toInt := by
  rw [Int64.toInt_add]
  exact Int.bmod_eq_of_le (by omega) (by omega)
theorem subL_i {a b : Int64} (h1 : -9223372036854775808 ≤ a.toInt - b.toInt) (h2 : a.toInt - b.toInt < 9223372036854775808) : (a - b).toInt = a.toInt - b.toInt := by
  rw [Int64.toInt_sub]
  exact Int.bmod_eq_of_le (by omega) (by omega)
theorem maxL_s (S : St) (a c : Int64) : f_J9_max_f86c9 S a c = some (if a < c then c else a) := by
  unfold f_J9_max_f86c9
  by_cases h : a < c
  · rw [if_pos (by rw [cmp_lt]; exact h), if_pos h]
  · rw [if_neg (by rw [cmp_lt]; exact h), if_neg h]
theorem maxL_i (a c : Int64) : (if a < c then c else a).toInt = max a.toInt c.toInt := by
  by_cases h : a < c
  · rw [if_pos h]
    rw [Int64.lt_iff_toInt_lt] at h
    omega
  · rw [if_neg h]
    rw [Int64.lt_iff_toInt_lt] at h
    omega
def AR_ (T : St) (xb : Nat) (cl : List Nat) (w : Nat → Int) (p nr : Nat → Nat) : Prop := mi T (xb + 18) 3 = nI cl.length ∧ ∀ i, i < cl.length → mi T (xb + 20) i = nI (p (cl.getD i 0)) ∧ (ml T (xb + 19) i).toInt = w (cl.getD i 0) ∧ mi T (xb + 21) i = nI (nr i)
def RN (cl : List Nat) (w : Nat → Int) (p nr : Nat → Nat) : Prop := ∀ i, i < cl.length → i < nr i ∧ nr i ≤ cl.length ∧ ∀ j, i < j → j < nr i → p (cl.getD i 0) ≤ p (cl.getD j 0) ∧ w (cl.getD j 0) ≤ w (cl.getD i 0)
theorem drop_run {cl : List Nat} {i e : Nat} (hi : i < cl.length) (he : i < e) (hl : e ≤ cl.length) : ∃ R, cl.drop (i + 1) = R ++ cl.drop e ∧ cl.drop i = cl.getD i 0 :: cl.drop (i + 1) ∧ ∀ y ∈ R, ∃ j, i < j ∧ j < e ∧ y = cl.getD j 0 := by
  refine ⟨(cl.drop (i + 1)).take (e - (i + 1)), ?_, ?_, fun y hy => ?_⟩
  · have := (List.take_append_drop (e - (i + 1)) (cl.drop (i + 1))).symm
    rw [List.drop_drop, show i + 1 + (e - (i + 1)) = e by omega] at this
    exact this
  · rw [List.getD_eq_getElem?_getD, List.getElem?_eq_getElem hi]
    exact List.drop_eq_getElem_cons hi
  · obtain ⟨k, k1, k2⟩ := List.getElem_of_mem hy
    rw [List.length_take, List.length_drop] at k1
    refine ⟨i + 1 + k, by omega, by omega, ?_⟩
    rw [← k2, List.getElem_take, List.getElem_drop, List.getD_eq_getElem?_getD, List.getElem?_eq_getElem (by omega)]
    rfl
section Search
variable {xb : Nat} {cl : List Nat} {w : Nat → Int} {p nr : Nat → Nat}
theorem X_search (h20 : cl.length ≤ 20) (hR : RN cl w p nr) (hp : ∀ y, p y ≤ 99) (hw : ∀ y, -4503599627370496 ≤ w y ∧ w y ≤ 4503599627370496) : ∀ (N m i d left q : Nat) (T : St) (tot : Int64), m ≤ N → i + m = cl.length → m < d → left ≤ 20 → q ≤ 999 → XOK T xb → AR_ T xb cl w p nr → -(4503599627370496 * (i : Int)) ≤ tot.toInt ∧ tot.toInt ≤ 4503599627370496 * (i : Int) → ∃ T', r_X1_search d T (xb + 18) (nI i) (nI left) (nI q) tot = some T' ∧ SW (fun z => z = xb + 18) T T' ∧ mi T' (xb + 18) = mi T (xb + 18) ∧ (ml T' (xb + 18) 4).toInt = max (ml T (xb + 18) 4).toInt (tot.toInt + KV w p (cl.drop i) left q) := by
  intro N
  induction N with
  | zero =>
    intro m i d left q T tot hm e1 e2 hl hq x ha hb
    obtain ⟨d, rfl⟩ : ∃ k, d = k + 1 := ⟨d - 1, by omega⟩
    have hi : i = cl.length := by omega
    have k2 := xK_chooser x
    show ∃ T', f_X1_search (r_X1_search d) T (xb + 18) (nI i) (nI left) (nI q) tot = some T' ∧ _
    unfold f_X1_search
    simp only [getL_s k2, maxL_s, putL_s k2, Option.bind_some]
    obtain ⟨A, hA⟩ : ∃ A, A = setL T (xb + 18) 4 (if ml T (xb + 18) 4 < tot then tot else ml T (xb + 18) 4) := ⟨_, rfl⟩
    rw [← hA]
    have wA : SW (fun z => z = xb + 18) T A := by rw [hA]; exact SW_L _ _ rfl
    have aI : mi A (xb + 18) = mi T (xb + 18) := by rw [hA]; rfl
    have aL : (ml A (xb + 18) 4).toInt = max (ml T (xb + 18) 4).toInt tot.toInt := by rw [hA, ml_setL_i, if_pos ⟨rfl, rfl⟩, maxL_i]
    have kA : kd A (xb + 18) = 2 := by rw [wA.kd]; exact k2
    have e3 : mi A (xb + 18) 3 = nI cl.length := by rw [aI]; exact ha.1
    have e0 : KV w p (cl.drop i) left q = 0 := by rw [hi, List.drop_length]; rfl
    have fin : ∃ T', some A = some T' ∧ SW (fun z => z = xb + 18) T T' ∧ mi T' (xb + 18) = mi T (xb + 18) ∧ (ml T' (xb + 18) 4).toInt = max (ml T (xb + 18) 4).toInt (tot.toInt + KV w p (cl.drop i) left q) := ⟨A, rfl, wA, aI, by rw [aL, e0, Int.add_zero]⟩
    by_cases c : nI left ≤ 0
    · rw [if_pos c]; exact fin
    · rw [if_neg c, if_neg (by rw [lt_i, nI_toInt (by omega)]; simp only [Int32.reduceToInt]; omega)]
      simp only [getI_s kA, e3, Option.bind_some]
      rw [if_pos (nI_le (by omega) (by omega))]
      exact fin
  | succ N ih =>
    intro m i d left q T tot hm e1 e2 hl hq x ha hb
    by_cases h0 : m = 0
    · exact ih m i d left q T tot (by omega) e1 e2 hl hq x ha hb
    obtain ⟨d, rfl⟩ : ∃ k, d = k + 1 := ⟨d - 1, by omega⟩
    have hi : i < cl.length := by omega
    have k2 := xK_chooser x
    show ∃ T', f_X1_search (r_X1_search d) T (xb + 18) (nI i) (nI left) (nI q) tot = some T' ∧ _
    unfold f_X1_search
    simp only [getL_s k2, maxL_s, putL_s k2, Option.bind_some]
    obtain ⟨A, hA⟩ : ∃ A, A = setL T (xb + 18) 4 (if ml T (xb + 18) 4 < tot then tot else ml T (xb + 18) 4) := ⟨_, rfl⟩
    rw [← hA]
    have wA : SW (fun z => z = xb + 18) T A := by rw [hA]; exact SW_L _ _ rfl
    have aI : mi A (xb + 18) = mi T (xb + 18) := by rw [hA]; rfl
    have aL : (ml A (xb + 18) 4).toInt = max (ml T (xb + 18) 4).toInt tot.toInt := by rw [hA, ml_setL_i, if_pos ⟨rfl, rfl⟩, maxL_i]
    clear hA
    have keep : ∀ U, SW (fun z => z = xb + 18) T U → mi U (xb + 18) = mi T (xb + 18) → AR_ U xb cl w p nr := fun U u1 u2 => by
      unfold AR_
      rw [u2, (u1.2.2.2 (xb + 19) (by omega)).2, (u1.2.2.2 (xb + 20) (by omega)).1, (u1.2.2.2 (xb + 21) (by omega)).1]
      exact ha
    have arA := keep A wA aI
    have xA := x.sw wA
    have e3 : mi A (xb + 18) 3 = nI cl.length := arA.1
    obtain ⟨r1, r2, r3⟩ := hR i hi
    obtain ⟨g1, g2, g3⟩ := arA.2 i hi
    by_cases c : left = 0
    · rw [if_pos (by rw [c, nI_0]; decide)]
      refine ⟨A, rfl, wA, aI, ?_⟩
      rw [aL, c, KV_0, Int.add_zero]
    · rw [if_neg (by rw [le_i, nI_toInt (by omega)]; simp only [Int32.reduceToInt]; omega), if_neg (by rw [lt_i, nI_toInt (by omega)]; simp only [Int32.reduceToInt]; omega)]
      simp only [getI_s (xK_chooser xA), e3, Option.bind_some]
      rw [if_neg (nI_ge (by omega) (by omega)), if_pos (by rw [lt_i, nI_toInt (by omega)]; simp only [Int32.reduceToInt]; omega)]
      obtain ⟨R, d1, d2, d3⟩ := drop_run hi r1 r2
      obtain ⟨y, hy⟩ : ∃ y, y = cl.getD i 0 := ⟨_, rfl⟩
      rw [← hy] at g1 g2 r3 d2
      simp only [xR_cprice xA, xL_cprice xA (show i < 20 by omega), g1, xR_cworth xA, xL_cworth xA (show i < 20 by omega), Option.bind_some, xV_chooser xA, nI_1]
      have hp99 := hp y
      have kv : KV w p (cl.drop i) left q = if p y ≤ q then max (w y + KV w p (cl.drop (i + 1)) (left - 1) (q - p y)) (KV w p (cl.drop (nr i)) left q) else KV w p (cl.drop (nr i)) left q := by
        rw [d2, d1]
        refine KV_run R _ (fun z hz => ?_) (by omega)
        obtain ⟨jj, j1, j2, j3⟩ := d3 z hz
        rw [j3]
        exact r3 jj j1 j2
      rw [kv]
      have nn : 0 ≤ KV w p (cl.drop (nr i)) left q := KV_nn _ _ _
      -- on to the next run
      have h73 : ∀ U, SW (fun z => z = xb + 18) T U → mi U (xb + 18) = mi T (xb + 18) → ∃ T', f_X1_search_73 (r_X1_search d) U (xb + 18) (nI i) (nI left) (nI q) tot = some T' ∧ SW (fun z => z = xb + 18) T T' ∧ mi T' (xb + 18) = mi T (xb + 18) ∧ (ml T' (xb + 18) 4).toInt = max (ml U (xb + 18) 4).toInt (tot.toInt + KV w p (cl.drop (nr i)) left q) := by
        intro U u1 u2
        have arU := keep U u1 u2
        have xU := x.sw u1
        obtain ⟨-, -, f3⟩ := arU.2 i hi
        obtain ⟨T', t1, t2, t3, t4⟩ := ih (cl.length - nr i) (nr i) d left q U tot (by omega) (by omega) (by omega) hl hq xU arU (by omega)
        unfold f_X1_search_73
        simp only [xR_cnext xU, xL_cnext xU (show i < 20 by omega), f3, xV_chooser xU, t1, Option.bind_some]
        rw [if_neg (by rw [le_i, nI_toInt (by omega), nI_toInt (by omega)]; omega)]
        exact ⟨T', rfl, u1.tr t2, by rw [t3, u2], t4⟩
      by_cases c2 : p y ≤ q
      · rw [if_neg (by rw [lt_i, nI_toInt (by omega), nI_toInt (by omega)]; omega), if_pos c2]
        have hwy := hw y
        have tI : (tot + ml A (xb + 19) i).toInt = tot.toInt + w y := by rw [addL_i (by omega) (by omega), g2]
        rw [show nI left - 1 = nI (left - 1) from by
          obtain ⟨z, rfl⟩ : ∃ z, left = z + 1 := ⟨left - 1, by omega⟩
          rw [nI_pred]; rfl, show nI q - nI (p y) = nI (q - p y) from (eq_i _ _).mpr (by
          rw [sub_i (by rw [nI_toInt (by omega), nI_toInt (by omega)]; omega) (by rw [nI_toInt (by omega), nI_toInt (by omega)]; omega), nI_toInt (by omega), nI_toInt (by omega), nI_toInt (by omega)]; omega)]
        obtain ⟨B, b1, b2, b3, b4⟩ := ih (m - 1) (i + 1) d (left - 1) (q - p y) A (tot + ml A (xb + 19) i) (by omega) (by omega) (by omega) (by omega) (by omega) xA arA (by rw [tI]; omega)
        rw [b1]
        simp only [Option.bind_some]
        obtain ⟨T', t1, t2, t3, t4⟩ := h73 B (wA.tr b2) (by rw [b3, aI])
        refine ⟨T', t1, t2, t3, ?_⟩
        rw [t4, b4, aL, tI]
        omega
      · rw [if_pos (by rw [lt_i, nI_toInt (by omega), nI_toInt (by omega)]; omega), if_neg c2]
        obtain ⟨T', t1, t2, t3, t4⟩ := h73 A wA aI
        refine ⟨T', t1, t2, t3, ?_⟩
        rw [t4, aL]
        omega
end Search
