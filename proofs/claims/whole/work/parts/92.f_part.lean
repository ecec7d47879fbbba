theorem bnd5 {α β : Type} {o : Option α} {a : α} {K : α → Option β} (h : o = some a) : o.bind K = K a := by
  rw [h]
  rfl
section Reck2
variable {xb n : Nat} {pv : Nat → Nat → Int32} {br : Nat → Nat → Bool}
theorem t4 {n : Nat} (h : n ≤ 8) : ((1 <<< (nI n &&& 31)) - 1) &&& 255 = nI (2 ^ n - 1) ∧ bits (2 ^ n - 1) = List.range n ∧ (subs (List.range n)).map (fun p => mk_ p.1) = (List.range (2 ^ n)).reverse ∧ ∀ p ∈ subs (List.range n), nI (2 ^ n - 1) ^^^ nI (mk_ p.1) = nI (mk_ p.2) ∧ bits (mk_ p.1) = p.1 ∧ bits (mk_ p.2) = p.2 ∧ mk_ p.2 < 2 ^ n := by
  have g := List.all_eq_true.mp tab4_ok n (List.mem_range.mpr (by omega))
  unfold tab4 at g
  simp only [Bool.and_eq_true, decide_eq_true_eq, List.all_eq_true] at g
  obtain ⟨⟨⟨g1, g2⟩, g3⟩, g4⟩ := g
  refine ⟨g1, g2, g3, fun p hp => ?_⟩
  obtain ⟨⟨⟨y1, y2⟩, y3⟩, y4⟩ := g4 p hp
  exact ⟨y1, y2, y3, y4⟩
theorem X_every {T : St} (x : XOK T xb) (h1 : mi T (xb + 12) 1 = nI n) (n8 : n ≤ 8) : f_X5_everybody T (xb + 12) = some (nI (2 ^ n - 1)) := by
  unfold f_X5_everybody
  simp only [getI_s (xK_joining x), h1, Option.bind_some, (t4 n8).1]
theorem p256 {n : Nat} (h : n ≤ 8) : 1 ≤ 2 ^ n ∧ 2 ^ n ≤ 256 := ⟨Nat.one_le_two_pow, Nat.pow_le_pow_right (by omega) h⟩
theorem X_r23 {T0 : St} (x0 : XOK T0 xb) (h1 : mi T0 (xb + 12) 1 = nI n) (n8 : n ≤ 8) (hP : ∀ T, SW (P4 xb) T0 T → PWo T xb n pv br) (hw : ∀ i k, -5 ≤ wtv pv i k ∧ wtv pv i k ≤ 9) : ∀ (m s fu : Nat) (T : St), s + m = 2 ^ n → m < fu → 0 < s → SW (P4 xb) T0 T → (∀ z, z < s → WV pv br (mi T (xb + 14) z) (bits z)) → ∃ T', f_X5_reckon_23 fu T (xb + 12) (nI s) = some (xb + 12, T') ∧ SW (fun z => z = xb + 14) T T' ∧ ∀ z, z < 2 ^ n → WV pv br (mi T' (xb + 14) z) (bits z) := by
  have q := p256 n8
  intro m
  induction m with
  | zero =>
    intro s fu T e1 e2 e3 w hW
    obtain ⟨fu, rfl⟩ : ∃ k, fu = k + 1 := ⟨fu - 1, by omega⟩
    have x := x0.sw w
    have h1' : mi T (xb + 12) 1 = nI n := by rw [(w.2.2.2 (xb + 12) (by unfold P4; omega)).1]; exact h1
    unfold f_X5_reckon_23
    simp only [xV_joining x, X_every x h1' n8, Option.bind_some]
    rw [if_pos (by rw [lt_i, nI_toInt (by omega), nI_toInt (by omega)]; omega)]
    exact ⟨T, rfl, SW.rf _ _, fun z hz => hW z (by omega)⟩
  | succ m ih =>
    intro s fu T e1 e2 e3 w hW
    obtain ⟨fu, rfl⟩ : ∃ k, fu = k + 1 := ⟨fu - 1, by omega⟩
    have x := x0.sw w
    have h1' : mi T (xb + 12) 1 = nI n := by rw [(w.2.2.2 (xb + 12) (by unfold P4; omega)).1]; exact h1
    obtain ⟨v, v1, v2⟩ := X_worthOf x h1' n8 (hP T w) hw e3 (by omega) hW
    have st : stI T (some (xb + 14)) 15 (nI s) v = some (setI T (xb + 14) s v) := stI_s (xK_worth x) (xN_worth x) (by omega) (by decide) v
    unfold f_X5_reckon_23
    simp only [xV_joining x, X_every x h1' n8, Option.bind_some]
    rw [if_neg (by rw [lt_i, nI_toInt (by omega), nI_toInt (by omega)]; omega), if_neg (by rw [le_i, nI_toInt (by omega)]; simp only [Int32.reduceToInt]; omega)]
    simp only [xR_worth x, v1, st, Option.bind_some, nI_1]
    obtain ⟨A, hA⟩ : ∃ A, A = setI T (xb + 14) s v := ⟨_, rfl⟩
    rw [← hA]
    have wA : SW (fun z => z = xb + 14) T A := by rw [hA]; exact SW_I _ _ rfl
    obtain ⟨T', g1, g2, g3⟩ := ih (s + 1) fu A (by omega) (by omega) (by omega) (w.tr (wA.mono (fun z hz => Or.inl hz))) (fun z hz => by
      rw [hA, mi_setI_i]
      by_cases e : z = s
      · rw [if_pos ⟨rfl, e⟩, e]; exact v2
      · rw [if_neg (fun y => e y.2)]; exact hW z (by omega))
    exact ⟨T', g1, wA.tr g2, g3⟩
/-- one way in which the first of a set may be grouped -/
abbrev tm (pv : Nat → Nat → Int32) (br : Nat → Nat → Bool) (f : Nat) (p : List Nat × List Nat) : ZF := sh (c0_ (wtv pv) br (f :: p.1)) (Pn (c0_ (wtv pv) br) 8 p.2)
theorem X_p1 {T : St} {s f : Nat} {R : List Nat} (x : XOK T xb) (hw : ∀ i k, -5 ≤ wtv pv i k ∧ wtv pv i k ≤ 9) (hs : s < 256) (hR8 : R.length ≤ 7) (hT : ∀ p ∈ subs R, (nI (2 ^ f) ||| nI (mk_ p.1)) &&& 255 = nI (mk_ (f :: p.1)) ∧ (nI s &&& (nI (mk_ (f :: p.1)) ^^^ (-1))) &&& 255 = nI (mk_ p.2) ∧ mk_ (f :: p.1) ≤ s ∧ mk_ p.2 < s ∧ WV pv br (mi T (xb + 14) (mk_ (f :: p.1))) (f :: p.1) ∧ BV (Pn (c0_ (wtv pv) br) 8 p.2) (mi T (xb + 15) (mk_ p.2)) (mi T (xb + 16) (mk_ p.2))) {q : List Nat × List Nat} (hq : q ∈ subs R) (fu : Nat) {i : Nat} (hi : i < 256) {g c : Int32} {Z : ZF} (hB : BW Z g c) : ∃ g1 c1, f_X5_part_23 (fu + 1) T (xb + 12) (nI s) (nI (2 ^ f)) (nI (mk_ R)) g c (nI (mk_ q.1)) (nI i) = f_X5_part_125 (f_X5_part_23 fu) T (xb + 12) (nI s) (nI (2 ^ f)) (nI (mk_ R)) g1 c1 (nI (mk_ q.1)) (nI i) ∧ ∃ Z1, BW Z1 g1 c1 ∧ ∀ w, Z1 w 0 = Z w 0 + tm pv br f q w 0 := by
  obtain ⟨h1, h2, h3, h4, h5, h6⟩ := hT q hq
  have hl := (subs_mem q hq).1
  have hmk : mk_ q.1 ≤ mk_ (f :: q.1) := Nat.le_add_left _ _
  have l14 : ldI T (some (xb + 14)) 15 (nI (mk_ (f :: q.1))) = some (mi T (xb + 14) (mk_ (f :: q.1))) := ldI_s (xK_worth x) (xN_worth x) (by omega) (by decide)
  have l15 : ldI T (some (xb + 15)) 15 (nI (mk_ q.2)) = some (mi T (xb + 15) (mk_ q.2)) := ldI_s (xK_best x) (xN_best x) (by omega) (by decide)
  have l16 : ldI T (some (xb + 16)) 15 (nI (mk_ q.2)) = some (mi T (xb + 16) (mk_ q.2)) := ldI_s (xK_ways x) (xN_ways x) (by omega) (by decide)
  obtain ⟨v, hv⟩ : ∃ v, v = mi T (xb + 14) (mk_ (f :: q.1)) := ⟨_, rfl⟩
  obtain ⟨b, hb⟩ : ∃ b, b = mi T (xb + 15) (mk_ q.2) := ⟨_, rfl⟩
  obtain ⟨d, hd⟩ : ∃ d, d = mi T (xb + 16) (mk_ q.2) := ⟨_, rfl⟩
  rw [← hv] at l14 h5
  rw [← hb] at l15 h6
  rw [← hd] at l16 h6
  rw [f_X5_part_23, if_neg (by rw [le_i, nI_toInt (by omega)]; simp only [Int32.reduceToInt]; omega), if_neg (by rw [lt_i, nI_toInt (by omega)]; simp only [Int32.reduceToInt]; omega)]
  simp only [xR_worth x, h1, l14, Option.bind_some, xR_best x, h2, l15]
  rcases h5 with ⟨a1, a2⟩ | ⟨a1, a2⟩
  · rw [if_pos a2]
    refine ⟨g, c, rfl, Z, hB, fun w => ?_⟩
    have : c0_ (wtv pv) br (f :: q.1) = none := if_pos a1
    show Z w 0 = Z w 0 + sh (c0_ (wtv pv) br (f :: q.1)) _ w 0
    rw [this]
    rfl
  · have b1 := fw_le hw (f :: q.1) (by rw [List.length_cons]; omega)
    rw [List.length_cons] at b1
    have b2 := Pn_bd (br := br) hw 8 q.2 b.toInt 0 (by omega) (by have := h6.1; omega)
    have nv : ¬ v = -9999 := fun z => by rw [z, m9] at a2; omega
    rw [if_neg nv]
    have tI : (v + b).toInt = fw (wtv pv) (f :: q.1) + b.toInt := by rw [add_i (by omega) (by omega), a2]
    have hZ : ∀ w, (fun w t => Z w t + tm pv br f q w t : ZF) w 0 = Z w 0 + Pn (c0_ (wtv pv) br) 8 q.2 (w - fw (wtv pv) (f :: q.1)) 0 := fun w => by
      show Z w 0 + sh (c0_ (wtv pv) br (f :: q.1)) _ w 0 = _
      have : c0_ (wtv pv) br (f :: q.1) = some (fw (wtv pv) (f :: q.1), 0) := by unfold c0_; rw [if_neg (by rw [a1]; decide)]
      rw [this]
      rfl
    have hU := BW_up (Z' := fun w t => Z w t + tm pv br f q w t) hB h6 tI (by omega) hZ
    refine ⟨_, _, ?_, (fun w t => Z w t + tm pv br f q w t), Or.inr hU, fun w => rfl⟩
    have h91 : ∀ (x4 x5 : Int32), f_X5_part_102 (f_X5_part_23 fu) T (xb + 12) (nI s) (nI (2 ^ f)) (nI (mk_ R)) x4 x5 (nI (mk_ q.1)) (nI i) (nI (mk_ q.2)) (v + b) = f_X5_part_125 (f_X5_part_23 fu) T (xb + 12) (nI s) (nI (2 ^ f)) (nI (mk_ R)) x4 (x5 + if v + b = x4 then d else 0) (nI (mk_ q.1)) (nI i) := by
      intro x4 x5
      unfold f_X5_part_102 f_X5_part_122
      by_cases e : v + b = x4
      · rw [if_pos e, if_pos e]
        simp only [xR_ways x, l16, Option.bind_some]
      · rw [if_neg e, if_neg e]
    by_cases e : v + b ≤ g
    · rw [if_pos e, if_pos e, if_pos e, h91]
    · rw [if_neg e, if_neg e, if_neg e, h91]
theorem X_p20 {T : St} {s f : Nat} {R : List Nat} (x : XOK T xb) (hw : ∀ i k, -5 ≤ wtv pv i k ∧ wtv pv i k ≤ 9) (hs : s < 256) (hR8 : R.length ≤ 7) (hT : ∀ p ∈ subs R, (nI (2 ^ f) ||| nI (mk_ p.1)) &&& 255 = nI (mk_ (f :: p.1)) ∧ (nI s &&& (nI (mk_ (f :: p.1)) ^^^ (-1))) &&& 255 = nI (mk_ p.2) ∧ mk_ (f :: p.1) ≤ s ∧ mk_ p.2 < s ∧ WV pv br (mi T (xb + 14) (mk_ (f :: p.1))) (f :: p.1) ∧ BV (Pn (c0_ (wtv pv) br) 8 p.2) (mi T (xb + 15) (mk_ p.2)) (mi T (xb + 16) (mk_ p.2))) : ∀ (l : List (List Nat × List Nat)) (q : List Nat × List Nat) (fu i : Nat) (g c : Int32) (Z : ZF), i + l.length < 256 → (∀ p ∈ q :: l, p ∈ subs R) → chnB (nI (mk_ R)) ((q :: l).map (fun p => nI (mk_ p.1))) = true → l.length + 1 < fu → BW Z g c → ∃ g' c', f_X5_part_23 fu T (xb + 12) (nI s) (nI (2 ^ f)) (nI (mk_ R)) g c (nI (mk_ q.1)) (nI i) = some (xb + 12, nI s, g', c', T) ∧ ∃ Z', BW Z' g' c' ∧ ∀ w, Z' w 0 = Z w 0 + lsum (q :: l) (tm pv br f) w 0 := by
  intro l
  induction l with
  | nil =>
    intro q fu i g c Z hi hm hc hf hB
    rw [List.length_nil] at hi
    obtain ⟨fu, rfl⟩ : ∃ k, fu = k + 2 := ⟨fu - 2, by rw [List.length_nil] at hf; omega⟩
    obtain ⟨g1, c1, e1, Z1, e2, e3⟩ := X_p1 x hw hs hR8 hT (hm q List.mem_cons_self) (fu + 1) (i := i) (by omega) hB
    have hc' : nI (mk_ q.1) = 0 := of_decide_eq_true hc
    rw [e1]
    unfold f_X5_part_125
    rw [if_pos hc', f_X5_part_23, nI_1]
    have ex : (if (256 : Int32) ≤ nI (i + 1) then some (xb + 12, nI s, g1, c1, T) else (if (-1 : Int32) < 0 then some (xb + 12, nI s, g1, c1, T) else none)) = some (xb + 12, nI s, g1, c1, T) := by
      rw [if_pos (show (-1 : Int32) < 0 by decide)]
      split <;> rfl
    rw [if_pos (show (-1 : Int32) < 0 by decide)] at ex ⊢
    rw [ex]
    refine ⟨g1, c1, rfl, Z1, e2, fun w => ?_⟩
    rw [e3]
    rfl
  | cons y l ih =>
    intro q fu i g c Z hi hm hc hf hB
    rw [List.length_cons] at hi
    obtain ⟨fu, rfl⟩ : ∃ k, fu = k + 1 := ⟨fu - 1, by rw [List.length_cons] at hf; omega⟩
    obtain ⟨g1, c1, e1, Z1, e2, e3⟩ := X_p1 x hw hs hR8 hT (hm q List.mem_cons_self) fu (i := i) (by omega) hB
    have hc' : (decide (¬ nI (mk_ q.1) = 0) && decide (¬ nI (mk_ q.1) < 0) && decide ((nI (mk_ q.1) - 1) &&& nI (mk_ R) = nI (mk_ y.1)) && chnB (nI (mk_ R)) ((y :: l).map (fun p => nI (mk_ p.1)))) = true := hc
    simp only [Bool.and_eq_true, decide_eq_true_eq] at hc'
    obtain ⟨⟨⟨k1, k2⟩, k3⟩, k4⟩ := hc'
    obtain ⟨g', c', e4, Z', e5, e6⟩ := ih y fu (i + 1) g1 c1 Z1 (by omega) (fun p hp => hm p (List.mem_cons_of_mem _ hp)) k4 (by rw [List.length_cons] at hf; omega) e2
    rw [e1]
    unfold f_X5_part_125
    rw [if_neg k1, k3, nI_1]
    refine ⟨g', c', e4, Z', e5, fun w => ?_⟩
    rw [e6, e3]
    show Z w 0 + tm pv br f q w 0 + lsum (y :: l) (tm pv br f) w 0 = Z w 0 + (tm pv br f q w 0 + lsum (y :: l) (tm pv br f) w 0)
    omega
theorem X_part {T : St} {s : Nat} (x : XOK T xb) (hw : ∀ i k, -5 ≤ wtv pv i k ∧ wtv pv i k ≤ 9) (h0 : 0 < s) (hs : s < 256) (hW : ∀ z, z ≤ s → WV pv br (mi T (xb + 14) z) (bits z)) (hBV : ∀ z, z < s → BV (Pn (c0_ (wtv pv) br) 8 (bits z)) (mi T (xb + 15) z) (mi T (xb + 16) z)) : ∃ g c, f_X5_part T (xb + 12) (nI s) = some (setI (setI T (xb + 15) s g) (xb + 16) s c) ∧ BV (Pn (c0_ (wtv pv) br) 8 (bits s)) g c := by
  obtain ⟨f, R, t1, t2, t3, t4', t5, t6, t7, t8, t9⟩ := tb h0 hs
  have hl := bits_len s
  rw [t1, List.length_cons] at hl
  have hT : ∀ p ∈ subs R, (nI (2 ^ f) ||| nI (mk_ p.1)) &&& 255 = nI (mk_ (f :: p.1)) ∧ (nI s &&& (nI (mk_ (f :: p.1)) ^^^ (-1))) &&& 255 = nI (mk_ p.2) ∧ mk_ (f :: p.1) ≤ s ∧ mk_ p.2 < s ∧ WV pv br (mi T (xb + 14) (mk_ (f :: p.1))) (f :: p.1) ∧ BV (Pn (c0_ (wtv pv) br) 8 p.2) (mi T (xb + 15) (mk_ p.2)) (mi T (xb + 16) (mk_ p.2)) := fun p hp => by
    obtain ⟨y1, y2, y3, y4, y5, y6⟩ := t9 p hp
    have z1 := hW _ y5
    have z2 := hBV _ y6
    rw [y3] at z1
    rw [y4] at z2
    exact ⟨y1, y2, y5, y6, z1, z2⟩
  obtain ⟨q, l, hql⟩ : ∃ q l, subs R = q :: l := by
    cases e : subs R with
    | nil => have := subs_all R; rw [e] at this; cases this
    | cons q l => exact ⟨q, l, rfl⟩
  have hlen : l.length + 1 ≤ 128 := by
    have h3 : ∀ R : List Nat, (subs R).length = 2 ^ R.length := fun R => by
      induction R with
      | nil => rfl
      | cons a R ih =>
        show ((subs R).flatMap _).length = _
        rw [List.length_flatMap, List.length_cons, Nat.pow_succ, ← ih]
        have : ∀ L : List (List Nat × List Nat), (L.map (fun p => [(a :: p.1, p.2), (p.1, a :: p.2)].length)).sum = L.length * 2 := fun L => by
          induction L with
          | nil => rfl
          | cons p L ih2 =>
            rw [List.map_cons, List.sum_cons, ih2]
            show 2 + L.length * 2 = (L.length + 1) * 2
            omega
        exact this _
    have h4 := h3 R
    rw [hql, List.length_cons] at h4
    have h5 : 2 ^ R.length ≤ 2 ^ 7 := Nat.pow_le_pow_right (by omega) (by omega)
    omega
  have hq1 : nI (mk_ q.1) = nI (mk_ R) := by
    have : ∀ R : List Nat, ∃ l, subs R = (R, []) :: l := fun R => by
      induction R with
      | nil => exact ⟨[], rfl⟩
      | cons a R ih =>
        obtain ⟨l, h⟩ := ih
        refine ⟨(R, a :: []) :: l.flatMap (fun p => [(a :: p.1, p.2), (p.1, a :: p.2)]), ?_⟩
        show (subs R).flatMap (fun p => [(a :: p.1, p.2), (p.1, a :: p.2)]) = _
        rw [h]
        rfl
    obtain ⟨l', h⟩ := this R
    rw [hql] at h
    rw [(List.cons.inj h).1]
  rw [hql] at t5
  have hm : ∀ p ∈ q :: l, p ∈ subs R := fun p hp => by rw [hql]; exact hp
  obtain ⟨g, c, e1, Z', e2, e3⟩ := X_p20 x hw hs (by omega) hT l q FU 0 (-9999) 0 (fun _ _ => 0) (by omega) hm t5 (by unfold FU; omega) (Or.inl ⟨fun _ => rfl, rfl, rfl⟩)
  refine ⟨g, c, ?_, ?_⟩
  · have s15 : ∀ v, stI T (some (xb + 15)) 15 (nI s) v = some (setI T (xb + 15) s v) := fun v => stI_s (xK_best x) (xN_best x) (by omega) (by decide) v
    have xA : XOK (setI T (xb + 15) s g) xb := x.sw (SW_I (P := fun _ => True) _ _ trivial)
    have s16 : ∀ v, stI (setI T (xb + 15) s g) (some (xb + 16)) 15 (nI s) v = some (setI (setI T (xb + 15) s g) (xb + 16) s v) := fun v => stI_s (xK_ways xA) (xN_ways xA) (by omega) (by decide) v
    have e0 : f_X5_part_148 T (xb + 12) (nI s) g c = some (setI (setI T (xb + 15) s g) (xb + 16) s c) := by
      unfold f_X5_part_148
      simp only [xR_best x, s15, Option.bind_some, xR_ways xA, s16]
    unfold f_X5_part
    rw [t3, t4']
    rw [hq1, nI_0] at e1
    exact (bnd5 e1).trans e0
  · have eZ : ∀ w, Z' w 0 = Pn (c0_ (wtv pv) br) 8 (bits s) w 0 := fun w => by
      rw [e3, t1]
      show 0 + lsum (q :: l) (tm pv br f) w 0 = lsum (subs R) (fun p => sh (c0_ (wtv pv) br (f :: p.1)) (Pn (c0_ (wtv pv) br) 7 p.2)) w 0
      rw [Nat.zero_add, hql]
      refine lsum_congr (fun p hp => sh_congr (fun w t => ?_))
      have := (subs_mem p (hm p hp)).1
      exact Pn_fuel 8 7 p.2 w t (by omega) (by omega)
    rcases e2 with ⟨a1, -, -⟩ | ⟨a1, a2, a3⟩
    · have h1 := Pn_one (wt := wtv pv) (br := br) 8 (bits s)
      rw [← eZ 0, a1] at h1
      omega
    · exact ⟨by rw [← eZ]; exact a1, by rw [← eZ]; exact a2, fun w hw' => by rw [← eZ]; exact a3 w hw'⟩
end Reck2
