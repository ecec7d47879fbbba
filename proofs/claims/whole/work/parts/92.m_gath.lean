/-! JOININGS: who is in the set -/
def PJ (xb z : Nat) : Prop := xb + 12 ≤ z ∧ z ≤ xb + 16
def JF (xb : Nat) (S T : St) : Prop := T.1 = S.1 ∧ T.2.1 = S.2.1 ∧ (∀ a, a ≠ xb + 13 → mr T a = mr S a) ∧ ∀ a, ¬ PJ xb a → mi T a = mi S a ∧ ml T a = ml S a
section Jf
variable {xb : Nat} {S T U : St}
theorem JF.rf (xb : Nat) (S : St) : JF xb S S := ⟨rfl, rfl, fun _ _ => rfl, fun _ _ => ⟨rfl, rfl⟩⟩
theorem JF.tr (h : JF xb S T) (k : JF xb T U) : JF xb S U := ⟨k.1.trans h.1, k.2.1.trans h.2.1, fun a ha => (k.2.2.1 a ha).trans (h.2.2.1 a ha), fun a ha => ⟨(k.2.2.2 a ha).1.trans (h.2.2.2 a ha).1, (k.2.2.2 a ha).2.trans (h.2.2.2 a ha).2⟩⟩
theorem SW.jf {P : Nat → Prop} (h : SW P S T) (hp : ∀ a, P a → PJ xb a) : JF xb S T := ⟨h.1, h.2.1, fun a _ => by rw [h.mr], fun a ha => h.2.2.2 a (fun c => ha (hp a c))⟩
theorem JF_R (j : Nat) (v : Option Nat) : JF xb S (setR S (xb + 13) j v) := ⟨rfl, rfl, fun a ha => by funext k; rw [mr_setR_i, if_neg (fun z => ha z.1)], fun _ _ => ⟨rfl, rfl⟩⟩
theorem JF.nx (h : JF xb S T) : nx T = nx S := congrArg (fun z => z.1) h.1
theorem JF.sl (h : JF xb S T) : sl T = sl S := congrArg (fun z => z.2.1) h.1
theorem JF.cap (h : JF xb S T) : cap T = cap S := congrArg (fun z => z.2.2.1) h.1
theorem JF.emp (h : JF xb S T) : emp T = emp S := congrArg (fun z => z.2.2.2.1) h.1
theorem JF.lit (h : JF xb S T) : lit T = lit S := congrArg (fun z => z.2.2.2.2) h.1
theorem JF.kd (h : JF xb S T) : kd T = kd S := congrArg (fun z => z.1) h.2.1
theorem JF.ln (h : JF xb S T) : ln T = ln S := congrArg (fun z => z.2) h.2.1
theorem PJ_k {z : Nat} (x : XOK S xb) (h : PJ xb z) : CSleepOfficeLaw_law_r5452_3564dc.kd S z = 6 ∨ CSleepOfficeLaw_law_r5452_3564dc.kd S z = 19 ∨ CSleepOfficeLaw_law_r5452_3564dc.kd S z = 15 := by
  unfold PJ at h
  have : z = xb + 12 ∨ z = xb + 13 ∨ z = xb + 14 ∨ z = xb + 15 ∨ z = xb + 16 := by omega
  rcases this with e | e | e | e | e
  · rw [e]; exact Or.inl (xK_joining x)
  · rw [e]; exact Or.inr (Or.inl (xK_seats x))
  · rw [e]; exact Or.inr (Or.inr (xK_worth x))
  · rw [e]; exact Or.inr (Or.inr (xK_best x))
  · rw [e]; exact Or.inr (Or.inr (xK_ways x))
theorem JF.fr (h : JF xb S T) (x : XOK S xb) : Fr (PJ xb) S T := by
  refine ⟨⟨by rw [h.nx]; exact Nat.le_refl _, by rw [h.sl]; exact Nat.le_refl _, h.cap, h.emp, h.lit, fun a _ => ⟨by rw [h.kd], by rw [h.ln], fun h21 => ?_⟩⟩, fun w a ha => ?_, fun a _ ha => ⟨(h.2.2.2 a ha).1, (h.2.2.2 a ha).2, h.2.2.1 a (fun e => ha (by rw [e]; unfold PJ; omega))⟩⟩
  · have np : ¬ PJ xb a := fun c => by have := PJ_k x c; omega
    exact ⟨(h.2.2.2 a np).1, h.2.2.1 a (fun e => np (by rw [e]; unfold PJ; omega))⟩
  · rw [h.kd]
    exact w a (by rw [h.nx] at ha; exact ha)
theorem JF.bs (h : JF xb S T) (b : BS S xb) : BS T xb := by
  obtain ⟨w, d, x, m, l, bb⟩ := b
  have q := h.fr x
  refine ⟨q.2.1 w, d.fr w q (fun a ha hk => by rw [h.2.2.1 a (fun e => by rw [e, xK_seats x] at hk; omega)]) (fun a ha => by rw [h.kd]; have := w a ha; omega), x.fr w q (h.2.2.1 _ (by omega)) (h.2.2.1 _ (by omega)) (h.2.2.1 _ (by omega)) (h.2.2.1 _ (by omega)), m.fr w q (h.2.2.1 _ (by omega)), l.fr w q, Nat.le_trans bb q.nxle⟩
theorem JF.jx {M : MI} {L : ML} {g : Gh} (h : JF xb S T) (j : JX S xb M L g) : JX T xb M L g := by
  have x := j.1.2.2.1
  refine j.go (h.fr x) (h.bs j.1) (fun a c => ?_) (PeqI.rf _) (PeqL.rf _)
  have k := PJ_k x c
  unfold PJ at c
  unfold okp
  omega
theorem JF.m (h : JF xb S T) (o : Nat) : Mi T (xb + 22) o = Mi S (xb + 22) o ∧ Ml T (xb + 22) o = Ml S (xb + 22) o := h.2.2.2 (xb + 22 + o) (by unfold PJ; omega)
end Jf
/-- the persons of a set -/
def pl (X np : Nat) : List Nat := (List.range np).filter (fun p => X.testBit p)
theorem pl_succ (X p : Nat) : pl X (p + 1) = pl X p ++ (if X.testBit p = true then [p] else []) := by
  unfold pl
  rw [List.range_succ, List.filter_append, fil1]
theorem pl_le {X p q : Nat} (h : p ≤ q) : (pl X p).length ≤ (pl X q).length := ((List.range_sublist.mpr h).filter _).length_le
theorem pl_lt {X p : Nat} {j : Nat} (h : j < (pl X p).length) : (pl X p).getD j 0 < p := by
  have := List.getElem_mem h
  rw [List.getD_eq_getElem?_getD, List.getElem?_eq_getElem h]
  unfold pl at this
  rw [List.mem_filter, List.mem_range] at this
  exact this.1
def SEk (X np : Nat) : Prop := X < 2 ^ np ∧ (pl X np).length ≤ 8
theorem pl_st {X np : Nat} (h : X < 2 ^ np) : ∀ d, pl X (np + d) = pl X np := by
  intro d
  induction d with
  | zero => rfl
  | succ d ih =>
    have := set_lt.mp h
    rw [show np + (d + 1) = (np + d) + 1 by omega, pl_succ, ih, this.2 (np + d) (by omega), if_neg (by decide), List.append_nil]
def SE (T : St) (xb : Nat) (pa : Nat → Nat) (l : List Nat) : Prop := mi T (xb + 12) 1 = nI l.length ∧ ∀ j, j < l.length → mr T (xb + 13) j = some (pa (l.getD j 0))
section Gath
variable {S : St} {xb nf np na ne nc X : Nat} {M : MI} {L : ML} {fa pa aa ea ca : Nat → Nat} {il : Nat → List Nat}
theorem X_seat {T : St} {l : List Nat} {p : Nat} (x : XOK T xb) (k9 : kd T (pa p) = 9) (hs : SE T xb pa l) (hl : l.length ≤ 8) : if l.length = 8 then f_X5_seat T (xb + 12) (some (pa p)) = some (0, T) else ∃ T', f_X5_seat T (xb + 12) (some (pa p)) = some (1, T') ∧ JF xb T T' ∧ SE T' xb pa (l ++ [p]) := by
  obtain ⟨s1, s2⟩ := hs
  have k6 := xK_joining x
  unfold f_X5_seat
  simp only [getI_s k6, s1, xR_seats x, xZ_seats x, X_isWithin, i01, Option.bind_some, nI_toInt (show l.length < 2 ^ 31 by omega), Int32.reduceToInt]
  by_cases c : l.length = 8
  · rw [if_pos c, if_pos (by omega)]
  · rw [if_neg c, if_neg (by omega)]
    have e1 : stR T (some (xb + 13)) 19 (nI l.length) (some (pa p)) = some (setR T (xb + 13) l.length (some (pa p))) := by
      show (if kd T (xb + 13) = 19 ∧ inB (nI l.length) (ln T (xb + 13)) = true ∧ fitR T 19 (pa p) = true then _ else none) = _
      rw [if_pos ⟨xK_seats x, inB_nI (by rw [xN_seats x]; omega) (by rw [xN_seats x]; omega), by show decide (kd T (pa p) = 9) = true; exact decide_eq_true k9⟩, nI_clamp (by omega)]
    simp only [e1, Option.bind_some]
    obtain ⟨A, hA⟩ : ∃ A, A = setR T (xb + 13) l.length (some (pa p)) := ⟨_, rfl⟩
    rw [← hA]
    have kA : kd A (xb + 12) = 6 := by rw [hA]; exact k6
    have aI : mi A (xb + 12) 1 = nI l.length := by rw [hA]; exact s1
    simp only [getI_s kA, aI, putI_s kA, nI_1, Option.bind_some]
    refine ⟨_, rfl, ?_, ?_, fun j hj => ?_⟩
    · have j1 : JF xb T A := by rw [hA]; exact JF_R _ _
      exact j1.tr ((SW_I (P := fun z => z = xb + 12) 1 _ rfl).jf (fun a e => by rw [e]; unfold PJ; omega))
    · rw [mi_setI_i, if_pos ⟨rfl, rfl⟩, List.length_append]
      rfl
    · rw [List.length_append] at hj
      have hj' : j < l.length + 1 := hj
      show mr A (xb + 13) j = _
      rw [hA, mr_setR_i]
      by_cases e : j = l.length
      · rw [if_pos ⟨rfl, e⟩, e]
        have : (l ++ [p]).getD l.length 0 = p := by
          have := getD_r l [p] 0 0
          rw [Nat.add_zero] at this
          rw [this]
          rfl
        rw [this]
      · rw [if_neg (fun z => e z.2), s2 j (by omega), getD_l _ _ _ (by omega)]
theorem X_g22 (j : JX S xb M L ((nf, fa), (np, pa), (na, aa), (ne, ea, il), (nc, ca))) (hX : X < 2 ^ 24) : ∀ (r p fu : Nat) (T : St), p + r = 24 → r < fu → JF xb S T → SE T xb pa (pl X p) → (pl X p).length ≤ 8 → (∀ q, np ≤ q → q < p → X.testBit q = false) → ∃ T', JF xb S T' ∧ ((SEk X np ∧ SE T' xb pa (pl X np) ∧ f_X11_gather_22 fu T xb (nI X) (nI p) = (f_X5_reckon T' (xb + 12)).bind (fun S70 => some (1, S70))) ∨ (¬ SEk X np ∧ f_X11_gather_22 fu T xb (nI X) (nI p) = some (0, T'))) := by
  have n24 : np ≤ 24 := j.un.2.2.2.2.2.1.2.1
  intro r
  induction r with
  | zero =>
    intro p fu T e1 e2 w hs hl hq
    obtain ⟨fu, rfl⟩ : ∃ k, fu = k + 1 := ⟨fu - 1, by omega⟩
    have : p = 24 := by omega
    subst this
    have xT := (w.bs j.1).2.2.1
    have lt := set_bits hX (fun q h1 h2 => hq q h1 h2)
    have e := pl_st lt (24 - np)
    rw [show np + (24 - np) = 24 by omega] at e
    rw [e] at hs hl
    refine ⟨T, w, Or.inl ⟨⟨lt, hl⟩, hs, ?_⟩⟩
    unfold f_X11_gather_22
    rw [if_pos (by rw [le_i, nI_toInt (by omega)]; simp only [Int32.reduceToInt]; omega)]
    simp only [xR_joining xT, xV_joining xT, Option.bind_some]
  | succ r ih =>
    intro p fu T e1 e2 w hs hl hq
    obtain ⟨fu, rfl⟩ : ∃ k, fu = k + 1 := ⟨fu - 1, by omega⟩
    obtain ⟨bT, -, -, -, -, cpT, -⟩ := (w.jx j).un
    have xT := bT.2.2.1
    unfold f_X11_gather_22
    rw [if_neg (by rw [le_i, nI_toInt (by omega)]; simp only [Int32.reduceToInt]; omega), bitI (by omega) (by omega)]
    by_cases c : X.testBit p = true
    · rw [if_pos c, if_pos rfl]
      by_cases cp' : p < np
      · have k9 := (cpT.2.2.2 p cp').1
        simp only [xV xT, X_personAt xT cpT.2.2.1 k9 cp', Option.bind_some, if_neg (show ¬ (some (pa p) = none) by simp), xR_joining xT, xV_joining xT]
        have g := X_seat (p := p) xT k9 hs hl
        have es := pl_succ X p
        rw [if_pos c] at es
        by_cases c8 : (pl X p).length = 8
        · rw [if_pos c8] at g
          rw [g]
          simp only [Option.bind_some, if_true]
          refine ⟨T, w, Or.inr ⟨fun z => ?_, rfl⟩⟩
          have h1 := pl_le (X := X) (show p + 1 ≤ np by omega)
          rw [es, List.length_append] at h1
          have h2 : (pl X p).length + 1 ≤ (pl X np).length := h1
          have := z.2
          omega
        · rw [if_neg c8] at g
          obtain ⟨A, a1, a2, a3⟩ := g
          rw [a1]
          simp only [Option.bind_some]
          rw [if_neg (by decide), nI_1]
          rw [← es] at a3
          exact ih (p + 1) fu A (by omega) (by omega) (w.tr a2) a3 (by
            rw [es, List.length_append]
            show (pl X p).length + 1 ≤ 8
            omega) (fun q h1 h2 => by omega)
      · simp only [xV xT, X_personAt_n xT cpT.2.2.1 (d := nI p) (by rw [nI_toInt (by omega)]; omega), Option.bind_some, if_true]
        refine ⟨T, w, Or.inr ⟨fun z => ?_, rfl⟩⟩
        have := (set_lt.mp z.1).2 p (by omega)
        rw [this] at c
        cases c
    · rw [if_neg c, if_neg (by decide), nI_1]
      have es := pl_succ X p
      rw [if_neg c, List.append_nil] at es
      rw [← es] at hs hl
      refine ih (p + 1) fu T (by omega) (by omega) w hs hl (fun q h1 h2 => ?_)
      by_cases e : q = p
      · rw [e]
        cases hh : X.testBit p with
        | true => exact absurd hh c
        | false => rfl
      · exact hq q h1 (by omega)
end Gath
