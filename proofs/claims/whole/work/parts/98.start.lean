/-! THE START, joined: whole_start out of the semantics -/
theorem ini_0 : Cond.instantiable RJx4a65c 3 ∈ gw := by first | exact w_137 | exact gw_mem 137 (by decide +kernel) rfl
theorem ini_1 : Cond.instantiable RX0 11 ∈ gw := by first | exact w_551 | exact gw_mem 551 (by decide +kernel) rfl
theorem ini_2 : Cond.instantiable RX1 5 ∈ gw := by first | exact w_270 | exact gw_mem 270 (by decide +kernel) rfl
theorem ini_3 : Cond.instantiable RX2 7 ∈ gw := by first | exact w_1091 | exact gw_mem 1091 (by decide +kernel) rfl
theorem ini_4 : Cond.instantiable RX3 6 ∈ gw := by first | exact w_617 | exact gw_mem 617 (by decide +kernel) rfl
theorem ini_5 : Cond.instantiable RX4 5 ∈ gw := by first | exact w_357 | exact gw_mem 357 (by decide +kernel) rfl
theorem ini_6 : Cond.instantiable RX5 5 ∈ gw := by first | exact w_246 | exact gw_mem 246 (by decide +kernel) rfl
theorem ini_7 : Cond.instantiable RX6 9 ∈ gw := by first | exact w_163 | exact gw_mem 163 (by decide +kernel) rfl
theorem ini_8 : Cond.instantiable RX7 9 ∈ gw := by first | exact w_708 | exact gw_mem 708 (by decide +kernel) rfl
theorem ini_9 : Cond.instantiable RX8 8 ∈ gw := by first | exact w_494 | exact gw_mem 494 (by decide +kernel) rfl
theorem ini_10 : Cond.instantiable RX9 7 ∈ gw := by first | exact w_214 | exact gw_mem 214 (by decide +kernel) rfl
theorem ini_11 : Cond.instantiable RX10 3 ∈ gw := by first | exact w_728 | exact gw_mem 728 (by decide +kernel) rfl
theorem ini_12 : Cond.instantiable RX11 16 ∈ gw := by first | exact w_129 | exact gw_mem 129 (by decide +kernel) rfl
theorem ini_13 : Cond.instantiable RX12 81 ∈ gw := by first | exact w_1297 | exact gw_mem 1297 (by decide +kernel) rfl
theorem eq_ev {args : Array Value} {s : State} {t u : Term} {v : Value} (h : (Cond.eq t u).before args s = true) (hu : u.eval args s none [] s = some v) : t.eval args s none [] s = some v := va_eqI (by simpa [Cond.before, Cond.holds] using h) hu
theorem eq_ev' {args : Array Value} {s : State} {t u : Term} {v : Value} (h : (Cond.eq t u).before args s = true) (ht : t.eval args s none [] s = some v) : u.eval args s none [] s = some v := by
  have h1 : (Cond.eq t u).value args s none s [] = some true := by simpa [Cond.before, Cond.holds] using h
  simp only [Cond.value, ht] at h1
  cases hu : u.eval args s none [] s with
  | none => simp [hu] at h1
  | some w =>
    simp only [hu] at h1
    cases v <;> cases w <;> simp_all
theorem mod_flat : ∀ q ∈ ([(278, 0), (284, 1), (286, 2), (287, 3), (288, 4), (290, 5), (292, 6), (293, 11), (295, 12), (297, 13), (299, 7), (301, 8), (303, 9), (305, 10)] : List (Nat × Nat)), Cond.eq (litT q.2) (Term.string "SleepOfficeModel" q.1) ∈ flatC (Jvm.Cond.and given_1 narrow_1) := by decide +kernel
theorem lit_words : ∀ q ∈ litW, Cond.stringRef q.1 q.2.1 q.2.2.1 ∈ lw_tbl ∧ q.2.2.2 < 15 ∧ ((q.1 = "SleepOffice$Token" ∧ q.2.1 = litIx.getD q.2.2.2 0) ∨ (q.1 = "SleepOfficeModel" ∧ (q.2.1, q.2.2.2) ∈ ([(278, 0), (284, 1), (286, 2), (287, 3), (288, 4), (290, 5), (292, 6), (293, 11), (295, 12), (297, 13), (299, 7), (301, 8), (303, 9), (305, 10)] : List (Nat × Nat)))) := by decide +kernel
theorem nest_words : ∀ w ∈ nestW, w ∈ lw_tbl ∧ w.onTables = true := by decide +kernel
theorem cast_words : ∀ r ∈ vwCl, Cond.castable r.1 "java/lang/Object" ∈ lw_tbl := by decide +kernel
theorem tq_oL : Cond.arrayOver (.object RX6) ∈ lw_tbl := by decide +kernel
theorem tq_oP : Cond.arrayOver (.object RX8) ∈ lw_tbl := by decide +kernel
theorem tq_oO : Cond.arrayOver (.object "java/lang/Object") ∈ lw_tbl := by decide +kernel
theorem tq_dc : Cond.declares ⟨"java/lang/Object", "getClass", "()Ljava/lang/Class;"⟩ ∈ lw_tbl := by decide +kernel
theorem tq_l1 : Cond.laysStatic "java/util/ArrayList" "DEFAULTCAPACITY_EMPTY_ELEMENTDATA" "[Ljava/lang/Object;" ∈ lw_tbl := by decide +kernel
theorem tq_l2 : Cond.laysStatic "java/lang/String" "COMPACT_STRINGS" "Z" ∈ lw_tbl := by decide +kernel
theorem tq_l3 : Cond.laysStatic "jdk/internal/util/Preconditions" "SIOOBE_FORMATTER" "Ljava/util/function/BiFunction;" ∈ lw_tbl := by decide +kernel
theorem tq_i1 : Cond.initialized "java/util/ArrayList" ∈ lw_tbl := by decide +kernel
theorem tq_i2 : Cond.initialized "java/lang/String" ∈ lw_tbl := by decide +kernel
theorem tq_i3 : Cond.initialized "jdk/internal/util/Preconditions" ∈ lw_tbl := by decide +kernel
theorem nq_1 : Cond.arrayOf (.static "java/util/ArrayList" "DEFAULTCAPACITY_EMPTY_ELEMENTDATA" "[Ljava/lang/Object;") (.object "java/lang/Object") ∈ flatC (Jvm.Cond.and given_1 narrow_1) := by decide +kernel
theorem nq_2 : Cond.eq (.length (.static "java/util/ArrayList" "DEFAULTCAPACITY_EMPTY_ELEMENTDATA" "[Ljava/lang/Object;")) (.int 0) ∈ flatC (Jvm.Cond.and given_1 narrow_1) := by decide +kernel
theorem nq_3 : Cond.isRef (.mirror "[Ljava/lang/Object;") ∈ flatC (Jvm.Cond.and given_1 narrow_1) := by decide +kernel
theorem nq_4 : Cond.exactly (.static "java/util/ArrayList" "DEFAULTCAPACITY_EMPTY_ELEMENTDATA" "[Ljava/lang/Object;") "[Ljava/lang/Object;" ∈ flatC (Jvm.Cond.and given_1 narrow_1) := by decide +kernel
theorem nq_5 : Cond.eq (.static "java/lang/String" "COMPACT_STRINGS" "Z") (.int 1) ∈ flatC (Jvm.Cond.and given_1 narrow_1) := by decide +kernel
theorem nq_6 : Cond.isRef (.static "jdk/internal/util/Preconditions" "SIOOBE_FORMATTER" "Ljava/util/function/BiFunction;") ∈ flatC (Jvm.Cond.and given_1 narrow_1) := by decide +kernel
theorem vaK_of {s : State} {G : Ge} (hKc : ∀ (k : Nat) (q : vw_C), vwCl[k]? = some q → u_Kn s q.1 q.2.1 q.2.2 (G.1.1 k) (G.1.2 k)) (h0 : ArrOfT s (G.2.1 14) .byte ∧ va_RA s (G.2.1 14) .byte) (h1 : ArrOfT s (G.2.1 15) .int ∧ va_RA s (G.2.1 15) .int) (h2 : ArrOfT s (G.2.1 16) .long ∧ va_RA s (G.2.1 16) .long) (h3 : ArrOfT s (G.2.1 17) .boolean ∧ va_RA s (G.2.1 17) .boolean) (h4 : ArrOfT s (G.2.1 18) (.object RX6) ∧ va_RA s (G.2.1 18) (.object RX6)) (h5 : ArrOfT s (G.2.1 19) (.object RX8) ∧ va_RA s (G.2.1 19) (.object RX8)) (h6 : ArrOfT s (G.2.1 20) (.object "java/lang/Object") ∧ va_RA s (G.2.1 20) (.object "java/lang/Object")) : va_K G.1 vwCl (tysOf G) s := by
  refine ⟨hKc, fun k q h => ?_⟩
  match k, h with
  | 0, h => cases h; exact h0
  | 1, h => cases h; exact h1
  | 2, h => cases h; exact h2
  | 3, h => cases h; exact h3
  | 4, h => cases h; exact h4
  | 5, h => cases h; exact h5
  | 6, h => cases h; exact h6
  | k + 7, h => simp [tysOf] at h
set_option maxRecDepth 20000 in
set_option maxHeartbeats 4000000 in
theorem whole_start {p : Program} {e : Env} {s : State} {m : MethodId} {below : List Frame} {meth : Method} {c : Code} (l : Launch) {b L : Nat} {xs : Nat → Int32} (hL : L ≤ 3072) (C0 : lw_At p s m meth c b L xs) : W p l e room_1 s m #[Value.ref b] below meth c s.heap [] 0 0 (lw_Z below #[Value.ref b] s) (entryFrame m ([Value.ref b] : List Value).toArray 4) := by
  obtain ⟨hx, hb, hr, hml, hown, hts, hX, hbl, hlocks, hgv⟩ := id C0
  have hs := flat_of_before _ hgv
  have htg : ∀ w ∈ gw, w.before #[Value.ref b] s = true := fun w hw => hts w (List.mem_filter.mp hw).1
  obtain ⟨c0, i0, k0⟩ := u_known (C := RJx4a65c) (T := TJx4a65c) (N := 3) (n := 3) htg lay_0 (htg _ (ini_0))
  obtain ⟨c1, i1, k1⟩ := u_known (C := RX0) (T := TX0) (N := 11) (n := 11) htg lay_1 (htg _ (ini_1))
  obtain ⟨c2, i2, k2⟩ := u_known (C := RX1) (T := TX1) (N := 5) (n := 5) htg lay_2 (htg _ (ini_2))
  obtain ⟨c3, i3, k3⟩ := u_known (C := RX2) (T := TX2) (N := 7) (n := 7) htg lay_3 (htg _ (ini_3))
  obtain ⟨c4, i4, k4⟩ := u_known (C := RX3) (T := TX3) (N := 6) (n := 6) htg lay_4 (htg _ (ini_4))
  obtain ⟨c5, i5, k5⟩ := u_known (C := RX4) (T := TX4) (N := 5) (n := 5) htg lay_5 (htg _ (ini_5))
  obtain ⟨c6, i6, k6⟩ := u_known (C := RX5) (T := TX5) (N := 5) (n := 5) htg lay_6 (htg _ (ini_6))
  obtain ⟨c7, i7, k7⟩ := u_known (C := RX6) (T := TX6) (N := 9) (n := 9) htg lay_7 (htg _ (ini_7))
  obtain ⟨c8, i8, k8⟩ := u_known (C := RX7) (T := TX7) (N := 9) (n := 9) htg lay_8 (htg _ (ini_8))
  obtain ⟨c9, i9, k9⟩ := u_known (C := RX8) (T := TX8) (N := 8) (n := 8) htg lay_9 (htg _ (ini_9))
  obtain ⟨c10, i10, k10⟩ := u_known (C := RX9) (T := TX9) (N := 7) (n := 7) htg lay_10 (htg _ (ini_10))
  obtain ⟨c11, i11, k11⟩ := u_known (C := RX10) (T := TX10) (N := 3) (n := 3) htg lay_11 (htg _ (ini_11))
  obtain ⟨c12, i12, k12⟩ := u_known (C := RX11) (T := TX11) (N := 16) (n := 16) htg lay_12 (htg _ (ini_12))
  obtain ⟨c13, i13, k13⟩ := u_known (C := RX12) (T := TX12) (N := 81) (n := 81) htg lay_13 (htg _ (ini_13))
  obtain ⟨dC, dI, hKc⟩ : ∃ (dC : Nat → ClassId) (dI : Nat → Nat → Nat), ∀ (k : Nat) (q : vw_C), vwCl[k]? = some q → u_Kn s q.1 q.2.1 q.2.2 (dC k) (dI k) := by
    refine ⟨fun k => if k = 0 then c0 else if k = 1 then c1 else if k = 2 then c2 else if k = 3 then c3 else if k = 4 then c4 else if k = 5 then c5 else if k = 6 then c6 else if k = 7 then c7 else if k = 8 then c8 else if k = 9 then c9 else if k = 10 then c10 else if k = 11 then c11 else if k = 12 then c12 else c13, fun k => if k = 0 then i0 else if k = 1 then i1 else if k = 2 then i2 else if k = 3 then i3 else if k = 4 then i4 else if k = 5 then i5 else if k = 6 then i6 else if k = 7 then i7 else if k = 8 then i8 else if k = 9 then i9 else if k = 10 then i10 else if k = 11 then i11 else if k = 12 then i12 else i13, ?_⟩
    intro k q hq
    match k, hq with
    | 0, hq => cases hq; exact k0
    | 1, hq => cases hq; exact k1
    | 2, hq => cases hq; exact k2
    | 3, hq => cases hq; exact k3
    | 4, hq => cases hq; exact k4
    | 5, hq => cases hq; exact k5
    | 6, hq => cases hq; exact k6
    | 7, hq => cases hq; exact k7
    | 8, hq => cases hq; exact k8
    | 9, hq => cases hq; exact k9
    | 10, hq => cases hq; exact k10
    | 11, hq => cases hq; exact k11
    | 12, hq => cases hq; exact k12
    | 13, hq => cases hq; exact k13
    | k + 14, hq => simp [vwCl] at hq
  obtain ⟨aB, kB, mB, b1, b2, b3⟩ := Cond.arrayClass_spec (htg _ w_210)
  obtain ⟨aI, kI, mI, i1, i2, i3⟩ := Cond.arrayClass_spec (htg _ w_211)
  obtain ⟨aJ, kJ, mJ, j1, j2, j3⟩ := Cond.arrayClass_spec (htg _ w_291)
  obtain ⟨aZ, kZ, mZ, z1, z2, z3⟩ := Cond.arrayClass_spec (htg _ w_1550)
  have oL : (Cond.arrayOver (.object RX6)).before #[Value.ref b] s = true := hts _ tq_oL
  have oP : (Cond.arrayOver (.object RX8)).before #[Value.ref b] s = true := hts _ tq_oP
  have oO : (Cond.arrayOver (.object "java/lang/Object")).before #[Value.ref b] s = true := hts _ tq_oO
  obtain ⟨mL, aL, kL, l1, l2, l3, l4, l5⟩ := Cond.arrayOver_spec oL
  obtain ⟨mP, aP, kP, p1, p2, p3, p4, p5⟩ := Cond.arrayOver_spec oP
  obtain ⟨mO, aO, kO, q1, q2, q3, q4, q5⟩ := Cond.arrayOver_spec oO
  obtain ⟨emp0, hem, hemT⟩ := va_Tof (args := #[Value.ref b]) (s := s) (tm := Term.static "java/util/ArrayList" "DEFAULTCAPACITY_EMPTY_ELEMENTDATA" "[Ljava/lang/Object;") (ty := .object "java/lang/Object") (N := 0) (f := fun _ => .null) (A := fun q => s.heap.size ≤ q) (by decide) (hs _ nq_1) (eq_ev (hs _ nq_2) rfl) (fun j hj => absurd hj (Nat.not_lt_zero _)) (fun a ha => Nat.not_le.mpr ha)
  obtain ⟨mi0, hmi⟩ := va_Mi.of (hs _ nq_3)
  let ac : Nat → ClassId := fun k => if k = 14 then aB else if k = 15 then aI else if k = 16 then aJ else if k = 17 then aZ else if k = 18 then aL else if k = 19 then aP else aO
  let G : Ge := ((dC, dI), ac, s.heap.size, fun _ => 0)
  have hlit : ∀ i : Nat, ∃ a v : Nat, i < 15 → (litT i).eval #[Value.ref b] s none [] s = some (.ref a) ∧ StrAt G s s.heap a (litLen i) (litC i) (some v) := by
    intro i
    by_cases hi : i < 15
    · obtain ⟨a, v, h⟩ := lit_at (G := G) hgv rfl i hi
      exact ⟨a, v, fun _ => h⟩
    · exact ⟨0, 0, fun h => absurd h hi⟩
  have hlit2 : ∃ A V : Nat → Nat, ∀ i, i < 15 → (litT i).eval #[Value.ref b] s none [] s = some (.ref (A i)) ∧ StrAt G s s.heap (A i) (litLen i) (litC i) (some (V i)) := ⟨fun i => (hlit i).choose, fun i => (hlit i).choose_spec.choose, fun i => (hlit i).choose_spec.choose_spec⟩
  obtain ⟨A0, V0, hA0⟩ := hlit2
  have hne : ∀ i, i < 15 → emp0 ≠ A0 i := by
    intro i hi he
    obtain ⟨a9, c9, cell9, k9, g1, g2, g3, g4, g5, g6, -⟩ := Cond.exactly_spec (hs _ nq_4)
    cases hem.symm.trans g1
    obtain ⟨v, by0, -, ⟨cell, y1, y2, y3, -⟩, -⟩ := (hA0 i hi).2
    rw [← he, g3] at y1
    cases y1
    rw [g6] at y3
    obtain ⟨k1, w1, w2⟩ := Vm.findClass_spec g2
    obtain ⟨k2, w3, w4⟩ := Vm.findClass_spec y3
    cases w1.symm.trans w3
    exact absurd (w2.symm.trans w4) (by decide)
  have hprop : ∀ a : Nat, Decidable (∃ i, i < 15 ∧ a = A0 i) := fun a => Classical.propDecidable _
  have hpick : ∀ a : Nat, ∃ i : Nat, (∃ k, k < 15 ∧ a = A0 k) → i < 15 ∧ a = A0 i := by
    intro a
    by_cases h : ∃ k, k < 15 ∧ a = A0 k
    · obtain ⟨k, hk⟩ := h
      exact ⟨k, fun _ => hk⟩
    · exact ⟨0, fun h' => absurd h' h⟩
  let pk : Nat → Nat := fun a => (hpick a).choose
  have hpk : ∀ a, (∃ k, k < 15 ∧ a = A0 k) → pk a < 15 ∧ a = A0 (pk a) := fun a => (hpick a).choose_spec
  obtain ⟨K0, hK0⟩ : ∃ K0 : Nat, K0 = s.heap.size + 600000 := ⟨_, rfl⟩
  let kd0 : Nat → Nat := fun a => if a = emp0 then 21 else @ite Nat (∃ i, i < 15 ∧ a = A0 i) (hprop a) 22 99
  let S0 : St := ((s.heap.size, 0, K0, emp0, fun i => if i = 15 then mi0 else A0 i), (kd0, fun a => litLen (pk a)), (fun a => litC (pk a)), (fun _ _ => 0), (fun a _ => some (V0 (pk a))))
  have hnx : nx S0 = s.heap.size := rfl
  have hcap : cap S0 = K0 := rfl
  have hsl : sl S0 = 0 := rfl
  have hbs : bs G = s.heap.size := rfl
  have k21 : ∀ a, kd S0 a = 21 → a = emp0 := by
    intro a h
    by_cases h1 : a = emp0
    · exact h1
    · have h2 : (@ite Nat (∃ i, i < 15 ∧ a = A0 i) (hprop a) 22 99) = 21 := by
        have : kd S0 a = @ite Nat (∃ i, i < 15 ∧ a = A0 i) (hprop a) 22 99 := if_neg h1
        rw [← this]; exact h
      split at h2 <;> omega
  have k22 : ∀ a, kd S0 a = 22 → ∃ i, i < 15 ∧ a = A0 i := by
    intro a h
    by_cases h1 : a = emp0
    · have : kd S0 a = 21 := if_pos h1
      omega
    · have h2 : (@ite Nat (∃ i, i < 15 ∧ a = A0 i) (hprop a) 22 99) = 22 := by
        have : kd S0 a = @ite Nat (∃ i, i < 15 ∧ a = A0 i) (hprop a) 22 99 := if_neg h1
        rw [← this]; exact h
      by_cases h3 : ∃ i, i < 15 ∧ a = A0 i
      · exact h3
      · rw [if_neg h3] at h2; omega
  have kall : ∀ a, kd S0 a = 21 ∨ kd S0 a = 22 ∨ kd S0 a = 99 := by
    intro a
    by_cases h1 : a = emp0
    · exact Or.inl (if_pos h1)
    · have h2 : kd S0 a = @ite Nat (∃ i, i < 15 ∧ a = A0 i) (hprop a) 22 99 := if_neg h1
      by_cases h3 : ∃ i, i < 15 ∧ a = A0 i
      · rw [if_pos h3] at h2; exact Or.inr (Or.inl h2)
      · rw [if_neg h3] at h2; exact Or.inr (Or.inr h2)
  have kA : ∀ i, i < 15 → kd S0 (A0 i) = 22 := by
    intro i hi
    have h2 : kd S0 (A0 i) = @ite Nat (∃ k, k < 15 ∧ A0 i = A0 k) (hprop (A0 i)) 22 99 := if_neg (Ne.symm (hne i hi))
    rw [h2]
    exact if_pos ⟨i, hi, rfl⟩
  have hempl : emp0 < s.heap.size := by
    obtain ⟨cell, c1, -⟩ := hemT
    exact (Array.getElem?_eq_some_iff.mp c1).1
  have hAl : ∀ i, i < 15 → A0 i < s.heap.size := by
    intro i hi
    obtain ⟨v, by0, -, ⟨cell, y1, -⟩, -⟩ := (hA0 i hi).2
    exact (Array.getElem?_eq_some_iff.mp y1).1
  have hbig : ∀ a, s.heap.size ≤ a → kd S0 a = 99 := by
    intro a ha
    rcases kall a with h | h | h
    · have := k21 a h; omega
    · obtain ⟨i, hi, rfl⟩ := k22 a h
      have := hAl i hi; omega
    · exact h
  have hstr : ∀ a, kd S0 a = 22 → StrAt G s s.heap a (ln S0 a) (mi S0 a) (mr S0 a 0) := by
    intro a h
    obtain ⟨u1, u2⟩ := hpk a (k22 a h)
    have := (hA0 (pk a) u1).2
    rw [← u2] at this
    exact this
  have hI : Init0 S0 := by
    refine ⟨by rw [hcap, hnx]; exact hK0, rfl, if_pos rfl, fun i hi => ?_, kall, hbig⟩
    have e1 : lit S0 i = A0 i := if_neg (by omega)
    rw [e1]
    refine ⟨kA i hi, ?_⟩
    have u := StrAt_uniq (hstr (A0 i) (kA i hi)) (hA0 i hi).2
    exact ⟨u.2.1, fun j hj => u.2.2 j (by rw [u.2.1]; exact hj)⟩
  have hRel : Rel G S0 s.heap := by
    refine ⟨rfl, Nat.le_refl _, by rw [hcap, hnx]; omega, by rw [hsl]; omega, by rw [hcap, hbs]; exact hK0, ?_, fun a h1 h2 => ?_, fun a h => ?_, fun a h => ?_⟩
    · show 0 = sumz S0 s.heap.size (s.heap.size - s.heap.size)
      rw [Nat.sub_self]; rfl
    · have h1' : s.heap.size ≤ a := h1
      have h2' : a < s.heap.size := h2
      omega
    · rcases kall a with h' | h' | h' <;> omega
    · rw [hbig a h]; omega
  have hK : va_K G.1 vwCl (tysOf G) s := vaK_of (G := G) hKc ⟨fun _ _ => ⟨fun _ h => (by cases h), kB, b2, mB, b3⟩, b1⟩ ⟨fun _ _ => ⟨fun _ h => (by cases h), kI, i2, mI, i3⟩, i1⟩ ⟨fun _ _ => ⟨fun _ h => (by cases h), kJ, j2, mJ, j3⟩, j1⟩ ⟨fun _ _ => ⟨fun _ h => (by cases h), kZ, z2, mZ, z3⟩, z1⟩ ⟨fun _ _ => ⟨fun _ h => (by cases h), kL, l3, mL, l4⟩, kL, mL, l3, l4, l1, l5⟩ ⟨fun _ _ => ⟨fun _ h => (by cases h), kP, p3, mP, p4⟩, kP, mP, p3, p4, p1, p5⟩ ⟨fun _ _ => ⟨fun _ h => (by cases h), kO, q3, mO, q4⟩, kO, mO, q3, q4, q1, q5⟩
  have hVF : VF G (lit S0) s := by
    refine ⟨hK, fun w hw => va_Nw.of (nest_words w hw).2 (hts w (nest_words w hw).1), ⟨va_AO.of oL, va_AO.of oP, va_AO.of oO⟩, fun q hq => ?_, hmi, va_Dc.of (A := #[Value.ref b]) (hts _ tq_dc), fun r hr => va_Nw.of rfl (hts _ (cast_words r hr))⟩
    obtain ⟨g1, g2, g3⟩ := lit_words q hq
    have e1 : lit S0 q.2.2.2 = A0 q.2.2.2 := if_neg (by omega)
    rw [e1]
    have hev := (hA0 q.2.2.2 g2).1
    rcases g3 with ⟨h1, h2⟩ | ⟨h1, h2⟩
    · refine vk_R.of (hts _ g1) ?_
      rw [h1, h2]; exact hev
    · refine vk_R.of (hts _ g1) ?_
      rw [h1]
      exact eq_ev' (hs _ (mod_flat _ h2)) hev
  have hLF : LF G S0 s s.heap := by
    refine ⟨va_Zof (hts _ tq_l1) (hts _ tq_i1) hem (fun a ha => Nat.not_le.mpr ha), va_Zof (hts _ tq_l2) (hts _ tq_i2) (va_eqi (hs _ nq_5)) (fun a ha => Nat.not_le.mpr ha), hemT, k21, hstr, va_Zqof (hts _ tq_l3) (hts _ tq_i3) (hs _ nq_6) (fun a ha => Nat.not_le.mpr ha)⟩
  have hC : Cx p s m #[Value.ref b] meth c G S0 (ly meth) cL_law 4 ret := ⟨hx, hb, hml, hown, htg, hVF, hLF, hlocks, hr, hRel, rfl⟩
  obtain ⟨o, ho, h1o⟩ := sem_law (xs := xs) (x0 := b) hL hI
  have hl := lv_entry ([.ref b]) (n := 4) (Nat.le_of_ble_eq_true rfl)
  rw [lg_entry_eq]
  generalize (lg_sl ([.ref b]) ++ List.replicate (4 - (lg_sl ([.ref b])).length) Slot.unset).toArray = ls at hl ⊢
  have hV := b_L_law (l := l) (e := e) (below := below) hC hX hbl ⟨rfl, rfl⟩ h1o ho ls hl s.heap [] hRel (Ext.rf S0) (fun _ _ => rfl) (fun _ h => by cases h)
  rw [Nat.sub_self, Nat.sub_self] at hV
  have hrm : rmo 2048 84000 S0 = room_1 := by
    unfold rmo
    rw [hcap, hnx, hsl, show K0 - s.heap.size = 600000 by omega]
    rfl
  rw [hrm] at hV
  exact hV
