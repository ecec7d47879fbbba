section Tkc
variable {mb s n c d : Nat} {tb : Nat → Nat} {ts : List Tk} {T T' U : St} {x : LawV} {x3 : Int32} {PL : List PLn} {w : LnR} {W : List LnR} {L : List Sps}
theorem tk1 : ∀ (W : List LnR) (i : Nat), i < W.length → W.take (i + 1) = W.take i ++ [W.getD i w0] ∧ W.getD i w0 ∈ W
  | [], i, h => by cases h
  | w :: W, 0, _ => ⟨rfl, List.mem_cons_self⟩
  | w :: W, i + 1, h => by
    have h' : i < W.length := Nat.lt_of_succ_lt_succ h
    obtain ⟨a, b⟩ := tk1 W i h'
    exact ⟨congrArg (List.cons w) a, List.mem_cons_of_mem _ b⟩
theorem fold_inv {P : LawV → Prop} (hst : ∀ x w, P x → okW w → P (stepL x w)) : ∀ (W : List LnR) (x : LawV), P x → (∀ w ∈ W, okW w) → P (W.foldl stepL x)
  | [], x, h, _ => h
  | w :: W, x, h, hok => fold_inv hst W (stepL x w) (hst x w h (hok w List.mem_cons_self)) (fun z hz => hok z (List.mem_cons_of_mem _ hz))
theorem sorts_ok : ∀ x w, (∃ m, m < 64 ∧ x.2.1 = nI m) → okW w → ∃ m, m < 64 ∧ (stepL x w).2.1 = nI m := fun x w h ok => by
  by_cases a : w.1 = 4
  · obtain ⟨m, h1, h2⟩ := h
    have a5 : w.2.1 ≤ 5 := by
      rcases ok with ⟨b | b | b | b | b, -⟩ | ⟨b, -⟩ <;> omega
    have es : (stepL x w).2.1 = x.2.1 ||| (1 <<< (nI w.2.1 &&& 31)) := by unfold stepL; rw [a]; rfl
    obtain ⟨t1, t2, t3⟩ := or_tab m h1 w.2.1 (by omega)
    exact ⟨_, t2, by rw [es, h2, t1]⟩
  · have es : (stepL x w).2.1 = x.2.1 := by
      have : w.1 = 3 ∨ w.1 = 5 ∨ w.1 = 6 ∨ w.1 = 7 ∨ w.1 = 8 := by
        rcases ok with ⟨b | b | b | b | b, -⟩ | ⟨b, -⟩ <;> omega
      unfold stepL
      rcases this with z | z | z | z | z <;> rw [z] <;> rfl
    rw [es]
    exact h
def VR (x : LawV) : Prop := (∀ k, k < 4 → 0 ≤ (x.1 k).toInt ∧ (x.1 k).toInt ≤ 40) ∧ 0 ≤ x.2.2.2.2.2.toInt ∧ x.2.2.2.2.2.toInt ≤ 40
theorem vr_ok : ∀ x w, VR x → okW w → VR (stepL x w) := fun x w h ok => by
  rcases ok with ⟨b | b | b | b | b, -⟩ | ⟨b, -⟩
  · have es : stepL x w = (fun k => if k = w.2.1 then nI w.2.2.1 else x.1 k, x.2) := by unfold stepL; rw [b.1]; rfl
    rw [es]
    refine ⟨fun k hk => ?_, h.2⟩
    show 0 ≤ (if k = w.2.1 then nI w.2.2.1 else x.1 k).toInt ∧ (if k = w.2.1 then nI w.2.2.1 else x.1 k).toInt ≤ 40
    by_cases e : k = w.2.1
    · rw [if_pos e, nI_toInt (by omega)]; omega
    · rw [if_neg e]; exact h.1 k hk
  · have es : stepL x w = (x.1, x.2.1 ||| (1 <<< (nI w.2.1 &&& 31)), x.2.2) := by unfold stepL; rw [b.1]; rfl
    rw [es]; exact h
  · have es : stepL x w = (x.1, x.2.1, nI w.2.1, x.2.2.2) := by unfold stepL; rw [b.1]; rfl
    rw [es]; exact h
  · have es : stepL x w = (x.1, x.2.1, x.2.2.1, nI w.2.1, x.2.2.2.2) := by unfold stepL; rw [b.1]; rfl
    rw [es]; exact h
  · have es : stepL x w = (x.1, x.2.1, x.2.2.1, x.2.2.2.1, nI w.2.1, nI w.2.2.1) := by unfold stepL; rw [b.1]; rfl
    rw [es]
    refine ⟨h.1, ?_⟩
    show 0 ≤ (nI w.2.2.1).toInt ∧ (nI w.2.2.1).toInt ≤ 40
    rw [nI_toInt (by omega)]; omega
  · have es : stepL x w = x := by unfold stepL; rw [b]; rfl
    rw [es]; exact h
theorem FW.tw (h : FW mb T W) (k : TW mb s T T') : FW mb T' W := fun i hi => by
  obtain ⟨a1, a2, a3, a4⟩ := h i hi
  exact ⟨by rw [k.ro (by omega)]; exact a1, fun z => by rw [k.ro (by omega)]; exact a2 z, fun z => by rw [k.ro (by omega)]; exact a3 z, fun z => ⟨by rw [k.ro (by omega)]; exact (a4 z).1, by rw [k.ro (by omega)]; exact (a4 z).2⟩⟩
theorem M_104 (hs : s < 4) (hok : ∀ w ∈ W, okW w) (h24 : W.length ≤ 24) : ∀ (N i fu : Nat) (T : St) (x3 : Int32), i + N = W.length → N < fu → MOK T mb → mi T mb 42 = nI W.length → FW mb T W → TV mb s T ((W.take i).foldl stepL lw0) x3 → TP mb s T (plW (W.take i)) → ∃ T' x3', f_X12_reads_104 fu T mb (nI s) x3 (nI i) = some (mb, nI s, T') ∧ TW mb s T T' ∧ TV mb s T' (W.foldl stepL lw0) x3' ∧ TP mb s T' (plW W) := by
  intro N
  induction N with
  | zero =>
    intro i fu T x3 e1 e2 m h42 hF tv tp
    obtain ⟨fu, rfl⟩ : ∃ k, fu = k + 1 := ⟨fu - 1, by omega⟩
    have e3 : W.take i = W := by rw [show i = W.length by omega, List.take_length]
    rw [e3] at tv tp
    refine ⟨T, x3, ?_, TW.rf _, tv, tp⟩
    unfold f_X12_reads_104
    simp only [mI m, h42, Option.bind_some]
    rw [if_pos (nI_le (by omega) (by omega))]
  | succ N ih =>
    intro i fu T x3 e1 e2 m h42 hF tv tp
    obtain ⟨fu, rfl⟩ : ∃ k, fu = k + 1 := ⟨fu - 1, by omega⟩
    obtain ⟨k1, k2⟩ := tk1 W i (by omega)
    have lr := hF i (by omega)
    obtain ⟨w, hw⟩ : ∃ w, w = W.getD i w0 := ⟨_, rfl⟩
    rw [← hw] at lr k1 k2
    have ok := hok w k2
    have okI : ∀ z ∈ W.take i, okW z := fun z hz => hok z (List.mem_of_mem_take hz)
    have len : (W.take i).length = i := by rw [List.length_take]; omega
    have fo : (W.take (i + 1)).foldl stepL lw0 = stepL ((W.take i).foldl stepL lw0) w := by rw [k1, List.foldl_append]; rfl
    have po : plW (W.take (i + 1)) = plW (W.take i) ++ pl1 w := by rw [k1]; unfold plW; rw [List.flatMap_append, List.flatMap_cons, List.flatMap_nil, List.append_nil]
    have n42 : ¬ (nI W.length ≤ nI i) := nI_ge (by omega) (by omega)
    by_cases a : w.1 = 4
    · have i1 : nI w.1 = 4 := by rw [a]; rfl
      have sort : ldI T (some (mb + 30)) 15 (nI i) = some 4 := by rw [mL_freshSort m (by omega), lr.1, i1]
      have gA : ldI T (some (mb + 31)) 15 (nI i) = some (nI w.2.1) := by rw [mL_freshA m (by omega), lr.2.1 (by omega)]
      have a5 : w.2.1 ≤ 5 := by
        rcases ok with ⟨b | b | b | b | b, -⟩ | ⟨b, -⟩ <;> omega
      obtain ⟨mm, m1, m2⟩ := fold_inv (P := fun x => ∃ m, m < 64 ∧ x.2.1 = nI m) sorts_ok (W.take i) lw0 ⟨0, by omega, rfl⟩ okI
      obtain ⟨x, hx⟩ : ∃ x, x = (W.take i).foldl stepL lw0 := ⟨_, rfl⟩
      rw [← hx] at tv fo m2
      obtain ⟨o1, o2, o3⟩ := or_tab mm m1 w.2.1 (by omega)
      have es : stepL x w = (x.1, x.2.1 ||| (1 <<< (nI w.2.1 &&& 31)), x.2.2) := by unfold stepL; rw [a]; rfl
      have nz : x.2.1 ||| (1 <<< (nI w.2.1 &&& 31)) ≠ 0 := by rw [m2, o1]; exact nI_nz o2 o3
      obtain ⟨A, hA⟩ : ∃ A, A = setI T (mb + 21) s (x.2.1 ||| (1 <<< (nI w.2.1 &&& 31))) := ⟨_, rfl⟩
      have wA : TW mb s T A := by rw [hA]; exact TW_I (by omega) (by omega) (by show 1 * s ≤ _ ∧ _ < 1 * s + 1; omega) _
      obtain ⟨t1, t2, t3, t4, t5, t6⟩ := tv
      have tvA : TV mb s A ((W.take (i + 1)).foldl stepL lw0) 0 := by
        rw [fo, es, hA]
        refine ⟨fun k hk => ?_, Or.inr ⟨rfl, nz, ?_⟩, ?_, ?_, ?_, ?_⟩
        · rw [mi_setI_i, if_neg (by omega)]; exact t1 k hk
        · rw [mi_setI_i, if_pos ⟨rfl, rfl⟩]
        · rw [mi_setI_i, if_neg (by omega)]; exact t3
        · rw [mi_setI_i, if_neg (by omega)]; exact t4
        · rw [mi_setI_i, if_neg (by omega)]; exact t5
        · rw [mi_setI_i, if_neg (by omega)]; exact t6
      have tpA : TP mb s A (plW (W.take (i + 1))) := by
        have : pl1 w = [] := by unfold pl1; rw [if_neg (by omega)]
        rw [po, this, List.append_nil, hA]
        exact ⟨by rw [mi_setI_i, if_neg (by omega)]; exact tp.1, fun j hj => by rw [mi_setI_i, if_neg (by omega), mi_setI_i, if_neg (by omega)]; exact tp.2 j hj⟩
      obtain ⟨T', x3', g1, g2, g3, g4⟩ := ih (i + 1) fu A 0 (by omega) (by omega) (m.sw wA.1) (by rw [wA.r0]; exact h42) (hF.tw wA) tvA tpA
      refine ⟨T', x3', ?_, wA.tr g2, g3, g4⟩
      rw [f_X12_reads_104]
      unfold f_X12_reads_143
      simp only [mI m, h42, if_neg n42, mR_freshSort m, sort, eq_self, if_true, Option.bind_some, mR_counting m, mR_freshA m, gA]
      rcases t2 with ⟨q1, q2, q3⟩ | ⟨q1, q2, q3⟩
      · rw [if_neg (by rw [q1]; decide)]
        rw [q2] at hA
        simp only [mS_counting m hs, nrw15, Option.bind_some, ← hA, nI_1]
        exact g1
      · rw [if_pos q1]
        have gC : ldI T (some (mb + 21)) 15 (nI s) = some x.2.1 := by rw [mL_counting m hs, q3]
        simp only [gC, mS_counting m hs, nrw15, Option.bind_some, ← hA, nI_1]
        exact g1
    · have n4 : ¬ (nI w.1 = 4) := by
        have w27 : w.1 < 27 := by rcases ok with ⟨b | b | b | b | b, -⟩ | ⟨b, -⟩ <;> omega
        exact fun z => a ((nI_e27 _ w27 4 (by omega)).mp z)
      have sort : ldI T (some (mb + 30)) 15 (nI i) = some (nI w.1) := by rw [mL_freshSort m (by omega), lr.1]
      obtain ⟨A, a1, wA, a2, a3⟩ := M_takes m hs (by omega) lr ok a tv tp (by rw [plW_st okI]) (by have := pl_len (W.take i); omega)
      rw [← fo] at a2
      rw [← po] at a3
      obtain ⟨T', x3', g1, g2, g3, g4⟩ := ih (i + 1) fu A x3 (by omega) (by omega) (m.sw wA.1) (by rw [wA.r0]; exact h42) (hF.tw wA) a2 a3
      refine ⟨T', x3', ?_, wA.tr g2, g3, g4⟩
      rw [f_X12_reads_104]
      simp only [mI m, h42, if_neg n42, mR_freshSort m, sort, if_neg n4, Option.bind_some, mV m, a1, nI_1]
      exact g1
theorem M_195 (hs : s < 4) {K : Nat} (hK : K ≤ 610) : ∀ (N t fu : Nat) (T : St), t + N = 2 * K → N < fu → MOK T mb → mi T mb 43 = nI K → (∀ j, j < t → mi T (mb + 29) (1220 * s + j) = mi T (mb + 35) j) → ∃ T', f_X12_reads_195 fu T mb (nI s) (nI t) = some (mi T mb 42, T') ∧ SW (fun z => z = mb + 29) T T' ∧ TW mb s T T' ∧ ∀ j, j < 2 * K → mi T' (mb + 29) (1220 * s + j) = mi T (mb + 35) j := by
  intro N
  induction N with
  | zero =>
    intro t fu T e1 e2 m h43 hj
    obtain ⟨fu, rfl⟩ : ∃ k, fu = k + 1 := ⟨fu - 1, by omega⟩
    have ix : (2 : Int32) * nI K = nI (2 * K) := by rw [show (2 : Int32) = nI 2 from rfl, pk_mul]
    refine ⟨T, ?_, SW.rf _ _, TW.rf _, fun j h => hj j (by omega)⟩
    unfold f_X12_reads_195
    simp only [mI m, h43, Option.bind_some, ix]
    rw [if_pos (nI_le (by omega) (by omega))]
  | succ N ih =>
    intro t fu T e1 e2 m h43 hj
    obtain ⟨fu, rfl⟩ : ∃ k, fu = k + 1 := ⟨fu - 1, by omega⟩
    have ix : (2 : Int32) * nI K = nI (2 * K) := by rw [show (2 : Int32) = nI 2 from rfl, pk_mul]
    have ix2 : (1220 : Int32) * nI s + nI t = nI (1220 * s + t) := ix4 1220 s t
    obtain ⟨A, hA⟩ : ∃ A, A = setI T (mb + 29) (1220 * s + t) (mi T (mb + 35) t) := ⟨_, rfl⟩
    have wA : TW mb s T A := by rw [hA]; exact TW_I (by omega) (by omega) (by show 1220 * s ≤ _ ∧ _ < 1220 * s + 1220; omega) _
    have sA : SW (fun z => z = mb + 29) T A := by rw [hA]; exact SW_I _ _ rfl
    obtain ⟨T', g1, g2, g3, g4⟩ := ih (t + 1) fu A (by omega) (by omega) (m.sw wA.1) (by rw [wA.r0]; exact h43) (fun j h => by
      rw [wA.ro (o := 35) (by omega), hA, mi_setI_i]
      by_cases e : j = t
      · rw [if_pos ⟨rfl, by omega⟩, e]
      · rw [if_neg (by omega)]; exact hj j (by omega))
    refine ⟨T', ?_, sA.tr g2, wA.tr g3, fun j h => by rw [g4 j h, wA.ro (by omega)]⟩
    rw [f_X12_reads_195]
    simp only [mI m, h43, Option.bind_some, ix]
    rw [if_neg (nI_ge (by omega) (by omega))]
    simp only [mR_step m, mR_fresh m, mL_fresh m (show t < 1220 by omega), ix2, mS_step m (show 1220 * s + t < 4880 by omega), nrw15, Option.bind_some, ← hA, nI_1]
    rw [g1, wA.r0]
end Tkc
