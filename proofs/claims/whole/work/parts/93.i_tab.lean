def gnN (g : Nat → Int32) (y : Nat) : Nat := if y < 20 then (gnv g y).toNatClampNeg else 0
theorem gnN_e {g : Nat → Int32} (hg : gOK g) {y : Nat} (hy : y < 20) : gnv g y = nI (gnN g y) ∧ (gnN g y : Int) = (gnv g y).toInt := by
  have h := gnv_bd hg hy
  have e : ((gnv g y).toNatClampNeg : Int) = (gnv g y).toInt := Int.toNat_of_nonneg (by omega)
  unfold gnN
  rw [if_pos hy]
  exact ⟨(eq_i _ _).mpr (by rw [nI_toInt (by omega)]; exact e.symm), e⟩
theorem gnN_le {g : Nat → Int32} (hg : gOK g) (y : Nat) : gnN g y ≤ 999999 := by
  by_cases hy : y < 20
  · have h := gnv_bd hg hy
    have := (gnN_e hg hy).2
    omega
  · unfold gnN; rw [if_neg hy]; omega
def gl (g : Nat → Int32) (y : Nat) : List Nat := (List.range y).filter (fun z => decide (g z = -1))
theorem l83_go {F f : Nat} {T A : St} {x0 : Nat} {x1 x2 x3 x4 x5 v : Int32} {o : Nat × Int32 × St} (h : f_X12_looks_131 F T x0 x1 x2 x3 x4 x5 v x2 = some (x0, x1, x2, x3, x4, x5, A)) (h2 : f_X12_looks_83 f A x0 x1 x2 x3 x4 (x5 + 1) = some o) : ((f_X12_looks_131 F T x0 x1 x2 x3 x4 x5 v x2).bind fun (x0, x1_131, x2_131, x3_131, x4_131, x5_131, S_131) => f_X12_looks_83 f S_131 x0 x1_131 x2_131 x3_131 x4_131 (x5_131 + 1)) = some o := by
  rw [h]
  exact h2
section Tab2
variable {xb k q f : Nat} {M : MI} {x4 : Int32}
theorem M_l83 (hk : k ≤ 20) (hq : q ≤ 999) (hf : f < 8) (hg : gOK (fgs M f)) (hp : ∀ y, pcv M y ≤ 99) (hpe : ∀ y, y < 20 → M 57 y = nI (pcv M y) ∧ 1 ≤ pcv M y) : ∀ (r y fu : Nat) (T : St), y + r = 20 → r < fu → MOK T (xb + 22) → Mi T (xb + 22) 56 = M 56 → Mi T (xb + 22) 57 = M 57 → TBl T xb (gnN (fgs M f)) (pcv M) k q (fun _ _ => gl (fgs M f) y) → ∃ T', f_X12_looks_83 fu T (xb + 22) (nI f) (nI k) (nI q) x4 (nI y) = some (xb + 22, x4, T') ∧ SW (PT xb) T T' ∧ TBl T' xb (gnN (fgs M f)) (pcv M) k q (fun _ _ => gl (fgs M f) 20) := by
  intro r
  induction r with
  | zero =>
    intro y fu T e1 e2 mT h56 h57 hT
    obtain ⟨fu, rfl⟩ : ∃ k, fu = k + 1 := ⟨fu - 1, by omega⟩
    have : y = 20 := by omega
    subst this
    unfold f_X12_looks_83
    rw [if_pos (by decide)]
    exact ⟨T, rfl, SW.rf _ _, hT⟩
  | succ r ih =>
    intro y fu T e1 e2 mT h56 h57 hT
    obtain ⟨fu, rfl⟩ : ∃ k, fu = k + 1 := ⟨fu - 1, by omega⟩
    have y20 : y < 20 := by omega
    have e20 : (20 : Int32) * nI f + nI y = nI (20 * f + y) := by rw [show (20 : Int32) = nI 20 from rfl, pk_mul, nI_add]
    have ef : fgs (Mi T (xb + 22)) f = fgs M f := by
      unfold fgs
      rw [h56]
    have v56 : mi T (xb + 22 + 56) (20 * f + y) = fgs M f y := congrFun h56 (20 * f + y)
    have gs_ : gl (fgs M f) (y + 1) = gl (fgs M f) y ++ (if fgs M f y = -1 then [y] else []) := by
      unfold gl
      rw [List.range_succ, List.filter_append, fil1]
      by_cases z : fgs M f y = -1
      · rw [if_pos (decide_eq_true z), if_pos z]
      · rw [if_neg (fun w => z (of_decide_eq_true w)), if_neg z]
    have b1 := M_bound (S := T) (mb := xb + 22) (f := f) mT hf (by rw [ef]; exact hg) y20 true
    have b0 := M_bound (S := T) (mb := xb + 22) (f := f) mT hf (by rw [ef]; exact hg) y20 false
    rw [ef] at b1 b0
    have b1' : f_X12_bound T (xb + 22) (nI f) (nI y) 1 = some (gsv (fgs M f) y) := b1
    have b0' : f_X12_bound T (xb + 22) (nI f) (nI y) 0 = some (lsv (fgs M f) y) := b0
    unfold f_X12_looks_83
    rw [if_neg (by rw [le_i, nI_toInt (by omega)]; simp only [Int32.reduceToInt]; omega), e20]
    simp only [mR_figures mT, mL_figures mT (show 20 * f + y < 160 by omega), v56, Option.bind_some, mV mT, b1', b0']
    rw [show gsv (fgs M f) y - lsv (fgs M f) y = gnv (fgs M f) y from rfl, (gnN_e hg y20).1]
    by_cases gap : fgs M f y = -1
    · rw [if_pos gap]
      rw [if_pos gap] at gs_
      obtain ⟨A, a1, a2, a3⟩ := M_l131 (xb := xb) (k := k) (q := q) (x1 := nI f) (x2 := nI k) (x4 := x4) (G := gnN (fgs M f)) (p := pcv M) (l := gl (fgs M f) y) hk hq (gnN_le hg) (hp y) (hpe y y20).2 y20 List.filter_sublist k FU T (Nat.le_refl _) (by unfold FU; omega) mT ((congrFun h57 y).trans (hpe y y20).1) (fun n' c' q1 q2 => by
        have h := hT n' c' q1 q2
        simp only at h ⊢
        by_cases z : k < n'
        · rw [if_pos z]
          unfold EK at h ⊢
          rw [if_neg (by omega)] at h ⊢
          exact h
        · rw [if_neg z]; exact h)
      rw [← gs_] at a3
      obtain ⟨B, c1, c2, c3⟩ := ih (y + 1) fu A (by omega) (by omega) (mT.sw a2) (((a2.2.2.2 (xb + 22 + 56) (by unfold PT; omega)).1).trans h56) (((a2.2.2.2 (xb + 22 + 57) (by unfold PT; omega)).1).trans h57) a3
      exact ⟨B, l83_go a1 (by rw [nI_1]; exact c1), a2.tr c2, c3⟩
    · rw [if_neg gap, nI_1]
      rw [if_neg gap, List.append_nil] at gs_
      exact ih (y + 1) fu T (by omega) (by omega) mT h56 h57 (by rw [gs_]; exact hT)
/-- one place's worth -/
def vlt (a b : Nat → Int32) (i : Nat) : Int := (a i).toInt * 2147483648 - ((i % 1000 : Nat) : Int) * 1048576 - (b i).toInt
theorem rem1000 {i : Nat} (h : i < 2 ^ 31) : remI (nI i) 1000 = some (nI (i % 1000)) := by
  unfold remI
  rw [if_neg (by decide), show (1000 : Int32) = nI 1000 from rfl, pk_rem (by omega) (by omega) (by omega)]
theorem M_l319 {T : St} {a b : Nat → Int32} (mT : MOK T (xb + 22)) (ha : ∀ i, mi T (xb + 22 + 58) i = a i) (hb : ∀ i, mi T (xb + 22 + 59) i = b i) (hab : ∀ i, i < 21000 → a i = -1 ∨ (0 ≤ (a i).toInt ∧ 0 ≤ (b i).toInt ∧ (b i).toInt < 1048576)) : ∀ (r t fu bi : Nat), t + r = 21000 → r < fu → bi < 21000 → a bi ≠ -1 → (∀ i, i < t → a i ≠ -1 → vlt a b i ≤ vlt a b bi) → ∃ bi', f_X12_looks_319 fu T (xb + 22) x4 (nI bi) (nI t) = some (xb + 22, x4, nI bi', T) ∧ bi' < 21000 ∧ a bi' ≠ -1 ∧ ∀ i, i < 21000 → a i ≠ -1 → vlt a b i ≤ vlt a b bi' := by
  intro r
  induction r with
  | zero =>
    intro t fu bi e1 e2 h1 h2 h3
    obtain ⟨fu, rfl⟩ : ∃ k, fu = k + 1 := ⟨fu - 1, by omega⟩
    unfold f_X12_looks_319
    rw [if_pos (by rw [le_i, nI_toInt (by omega)]; simp only [Int32.reduceToInt]; omega)]
    exact ⟨bi, rfl, h1, h2, fun i hi => h3 i (by omega)⟩
  | succ r ih =>
    intro t fu bi e1 e2 h1 h2 h3
    obtain ⟨fu, rfl⟩ : ∃ k, fu = k + 1 := ⟨fu - 1, by omega⟩
    have t21 : t < 21000 := by omega
    unfold f_X12_looks_319
    rw [if_neg (by rw [le_i, nI_toInt (by omega)]; simp only [Int32.reduceToInt]; omega)]
    simp only [mR_most mT, mL_most mT t21, mL_most mT h1, mR_mostSet mT, mL_mostSet mT t21, mL_mostSet mT h1, ha, hb, Option.bind_some, rem1000 (show t < 2 ^ 31 by omega), rem1000 (show bi < 2 ^ 31 by omega), nI_1]
    obtain ⟨p1, p2, p3⟩ := (hab bi h1).resolve_left h2
    have ht := hab t t21
    have tI := nI_toInt (n := t % 1000) (by omega)
    have bI := nI_toInt (n := bi % 1000) (by omega)
    have n1 : (-1 : Int32).toInt = -1 := rfl
    -- it stays
    have stay : (a t ≠ -1 → vlt a b t ≤ vlt a b bi) → ∃ bi', f_X12_looks_319 fu T (xb + 22) x4 (nI bi) (nI (t + 1)) = some (xb + 22, x4, nI bi', T) ∧ bi' < 21000 ∧ a bi' ≠ -1 ∧ ∀ i, i < 21000 → a i ≠ -1 → vlt a b i ≤ vlt a b bi' := fun hs => ih (t + 1) fu bi (by omega) (by omega) h1 h2 (fun i hi hn => by
      by_cases e : i = t
      · rw [e] at hn ⊢; exact hs hn
      · exact h3 i (by omega) hn)
    have new : a t ≠ -1 → vlt a b bi ≤ vlt a b t → ∃ bi', f_X12_looks_319 fu T (xb + 22) x4 (nI t) (nI (t + 1)) = some (xb + 22, x4, nI bi', T) ∧ bi' < 21000 ∧ a bi' ≠ -1 ∧ ∀ i, i < 21000 → a i ≠ -1 → vlt a b i ≤ vlt a b bi' := fun hn hv => ih (t + 1) fu t (by omega) (by omega) t21 hn (fun i hi hn' => by
      by_cases e : i = t
      · rw [e]; exact Int.le_refl _
      · exact Int.le_trans (h3 i (by omega) hn') hv)
    by_cases d1 : a t < a bi
    · rw [if_pos d1]
      rw [lt_i] at d1
      refine stay (fun hn => ?_)
      obtain ⟨q1, q2, q3⟩ := ht.resolve_left hn
      unfold vlt
      omega
    · rw [if_neg d1]
      rw [lt_i] at d1
      by_cases d2 : a t = -1
      · rw [if_pos d2]
        exact stay (fun hn => absurd d2 hn)
      · rw [if_neg d2]
        obtain ⟨q1, q2, q3⟩ := ht.resolve_left d2
        by_cases d3 : a bi < a t
        · rw [if_pos d3]
          rw [lt_i] at d3
          exact new d2 (by unfold vlt; omega)
        · rw [if_neg d3]
          rw [lt_i] at d3
          by_cases d4 : nI (t % 1000) < nI (bi % 1000)
          · rw [if_pos d4]
            rw [lt_i, tI, bI] at d4
            exact new d2 (by unfold vlt; omega)
          · rw [if_neg d4]
            rw [lt_i, tI, bI] at d4
            by_cases d5 : nI (t % 1000) = nI (bi % 1000)
            · rw [if_pos d5]
              rw [nI_eq (by omega) (by omega)] at d5
              by_cases d6 : b bi ≤ b t
              · rw [if_pos d6]
                rw [le_i] at d6
                exact stay (fun _ => by unfold vlt; omega)
              · rw [if_neg d6]
                rw [le_i] at d6
                exact new d2 (by unfold vlt; omega)
            · rw [if_neg d5]
              rw [nI_eq (by omega) (by omega)] at d5
              exact stay (fun _ => by unfold vlt; omega)
end Tab2
theorem KV_fil {w : Nat → Int} {p : Nat → Nat} (P : Nat → Bool) : ∀ (l : List Nat), (∀ x ∈ l, P x = false → w x ≤ 0) → ∀ k q, KV w p (l.filter P) k q = KV w p l k q := by
  intro l
  induction l with
  | nil => intro _ k q; rfl
  | cons x l ih =>
    intro h k q
    have i := ih (fun z hz => h z (List.mem_cons_of_mem _ hz))
    cases e : P x with
    | true =>
      rw [List.filter_cons_of_pos e]
      unfold KV
      rw [i, i]
    | false =>
      rw [List.filter_cons_of_neg (by rw [e]; decide), KV_neg (h x List.mem_cons_self e), i]
theorem wth_congr {w w' : Nat → Int} : ∀ {l : List Nat}, (∀ x ∈ l, w x = w' x) → wth w l = wth w' l := by
  intro l
  induction l with
  | nil => intro _; rfl
  | cons x l ih =>
    intro h
    show w x + wth w l = w' x + wth w' l
    rw [h x List.mem_cons_self, ih (fun z hz => h z (List.mem_cons_of_mem _ hz))]
