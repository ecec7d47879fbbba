/-! SLEEP -/
abbrev stir (M : MI) (so K : Int32) (x : Nat) : Prop := M 15 x ≠ 6 ∧ ((so >>> (M 15 x &&& 31)) &&& 1) = 1 ∧ (M 19 x).toInt ≤ K.toInt
/-- r is the latest of b and of the days of Q -/
def top (M : MI) (b : Int32) (Q : Nat → Prop) (r : Int32) : Prop := (r = b ∨ ∃ x, Q x ∧ r = M 16 x) ∧ b.toInt ≤ r.toInt ∧ ∀ x, Q x → (M 16 x).toInt ≤ r.toInt
theorem top_one {M : MI} {b r r' : Int32} {Q : Nat → Prop} (h : top M b Q r) (k : top M b Q r') : r = r' := by
  rw [eq_i]
  obtain ⟨h1, h2, h3⟩ := h
  obtain ⟨k1, k2, k3⟩ := k
  have a : r.toInt ≤ r'.toInt := by
    rcases h1 with e | ⟨x, x1, x2⟩
    · rw [e]; exact k2
    · rw [x2]; exact k3 x x1
  have c : r'.toInt ≤ r.toInt := by
    rcases k1 with e | ⟨x, x1, x2⟩
    · rw [e]; exact h2
    · rw [x2]; exact h3 x x1
  omega
theorem top_cong {M : MI} {b r : Int32} {Q Q' : Nat → Prop} (h : top M b Q r) (e : ∀ x, Q x ↔ Q' x) : top M b Q' r := by
  have : Q = Q' := by funext x; exact propext (e x)
  rw [← this]; exact h
theorem top_add {M : MI} {b r : Int32} {Q : Nat → Prop} (h : top M b Q r) (y : Nat) : top M b (fun x => Q x ∨ x = y) (if r.toInt < (M 16 y).toInt then M 16 y else r) := by
  obtain ⟨h1, h2, h3⟩ := h
  by_cases c : r.toInt < (M 16 y).toInt
  · rw [if_pos c]
    refine ⟨Or.inr ⟨y, Or.inr rfl, rfl⟩, by omega, fun x hx => ?_⟩
    rcases hx with q | q
    · have := h3 x q; omega
    · rw [q]; exact Int.le_refl _
  · rw [if_neg c]
    refine ⟨?_, h2, fun x hx => ?_⟩
    · rcases h1 with e | ⟨x, x1, x2⟩
      · exact Or.inl e
      · exact Or.inr ⟨x, Or.inl x1, x2⟩
    · rcases hx with q | q
      · exact h3 x q
      · rw [q]; omega
/-- the latest stir, the reference's way -/
def stv (M : MI) (a : Nat) (so K : Int32) (l : List Nat) (b : Int32) : Int32 := l.foldl (fun r x => if (M 14 x = nI a ∧ stir M so K x) ∧ r.toInt < (M 16 x).toInt then M 16 x else r) b
theorem stv_top {M : MI} {a : Nat} {so K b : Int32} : ∀ (l : List Nat) (Q : Nat → Prop) (r : Int32), top M b Q r → top M b (fun x => Q x ∨ (x ∈ l ∧ M 14 x = nI a ∧ stir M so K x)) (stv M a so K l r)
  | [], Q, r, h => top_cong h (fun x => by simp)
  | y :: l, Q, r, h => by
    unfold stv
    rw [List.foldl_cons]
    by_cases c : M 14 y = nI a ∧ stir M so K y
    · have h2 := top_add h y
      have h3 := stv_top (a := a) (so := so) (K := K) l _ _ h2
      unfold stv at h3
      have e : (if (M 14 y = nI a ∧ stir M so K y) ∧ r.toInt < (M 16 y).toInt then M 16 y else r) = if r.toInt < (M 16 y).toInt then M 16 y else r := ifc ⟨fun q => q.2, fun q => ⟨c, q⟩⟩
      rw [e]
      refine top_cong h3 (fun x => ⟨?_, ?_⟩)
      · rintro ((q | q) | q)
        · exact Or.inl q
        · right; rw [q]; exact ⟨by simp, c⟩
        · right; exact ⟨by simp [q.1], q.2⟩
      · rintro (q | ⟨q1, q2⟩)
        · exact Or.inl (Or.inl q)
        · rcases List.mem_cons.mp q1 with e | e
          · exact Or.inl (Or.inr e)
          · exact Or.inr ⟨e, q2⟩
    · rw [if_neg (fun q => c q.1)]
      have h3 := stv_top (a := a) (so := so) (K := K) l _ _ h
      unfold stv at h3
      refine top_cong h3 (fun x => ⟨?_, ?_⟩)
      · rintro (q | q)
        · exact Or.inl q
        · right; exact ⟨by simp [q.1], q.2⟩
      · rintro (q | ⟨q1, q2⟩)
        · exact Or.inl q
        · rcases List.mem_cons.mp q1 with e | e
          · rw [e] at q2; exact absurd q2 c
          · exact Or.inr ⟨e, q2⟩
theorem M_stir18 {S : St} {mb ne a s : Nat} (m : MOK S mb) (h4 : mi S mb 4 = nI ne) (hne : ne ≤ 600) (hs : s < 4) (K : Int32) : ∀ (n t fu : Nat) (r : Int32), t + n = ne → n < fu → f_X12_sleepOf_18 fu S mb (nI a) K (nI s) r (nI t) = some (mb, nI a, nI s, stv (Mi S mb) a (Mi S mb 21 s) K (List.range' t n) r)
  | n, t, 0, r, _, h2 => by omega
  | 0, t, fu + 1, r, h1, _ => by
    unfold f_X12_sleepOf_18
    simp only [mI m, h4, Option.bind_some]
    rw [if_pos (nI_le (by omega) (by omega))]; rfl
  | n + 1, t, fu + 1, r, h1, h2 => by
    have ht : t < 600 := by omega
    unfold f_X12_sleepOf_18
    simp only [mI m, h4, Option.bind_some]
    rw [if_neg (nI_ge (by omega) (by omega))]
    simp only [mR_actOf m, mL_actOf m ht, mR_actSort m, mL_actSort m ht, mR_actOn m, mL_actOn m ht, mR_actTold m, mL_actTold m ht, mR_counting m, mL_counting m hs, Option.bind_some, nI_1, M_stir18 m h4 hne hs K n (t + 1) fu _ (show t + 1 + n = ne by omega) (show n < fu by omega), lt_i, le_i]
    have hst : ∀ w, stv (Mi S mb) a (Mi S mb 21 s) K (List.range' t (n + 1)) w = stv (Mi S mb) a (Mi S mb 21 s) K (List.range' (t + 1) n) (if (Mi S mb 14 t = nI a ∧ stir (Mi S mb) (Mi S mb 21 s) K t) ∧ w.toInt < (Mi S mb 16 t).toInt then Mi S mb 16 t else w) := fun w => by
      unfold stv
      rw [List.range'_succ, List.foldl_cons]
    rw [hst]
    show (if Mi S mb 14 t = nI a then if K.toInt < (Mi S mb 19 t).toInt then _ else if Mi S mb 15 t = 6 then _ else if ((Mi S mb 21 s >>> (Mi S mb 15 t &&& 31)) &&& 1) = 1 then if (Mi S mb 16 t).toInt ≤ r.toInt then _ else _ else _ else _) = _
    by_cases c1 : Mi S mb 14 t = nI a
    · rw [if_pos c1]
      by_cases c2 : K.toInt < (Mi S mb 19 t).toInt
      · rw [if_pos c2, if_neg (fun q => by have := q.1.2.2.2; omega)]
      · rw [if_neg c2]
        by_cases c3 : Mi S mb 15 t = 6
        · rw [if_pos c3, if_neg (fun q => q.1.2.1 c3)]
        · rw [if_neg c3]
          by_cases c4 : ((Mi S mb 21 s >>> (Mi S mb 15 t &&& 31)) &&& 1) = 1
          · rw [if_pos c4]
            by_cases c5 : (Mi S mb 16 t).toInt ≤ r.toInt
            · rw [if_pos c5, if_neg (fun q => by have := q.2; omega)]
            · rw [if_neg c5, if_pos ⟨⟨c1, c3, c4, by omega⟩, by omega⟩]; rfl
          · rw [if_neg c4, if_neg (fun q => c4 q.1.2.2.1)]
    · rw [if_neg c1, if_neg (fun q => c1 q.1.1)]
theorem X_stir8 {S : St} {xb a l ne : Nat} {M : MI} {ea : Nat → Nat} {il : List Nat} (ha : kd S a = 1) (hr : mr S a 5 = some l) (hL : LI S l il.length (fun k => ea (il.getD k 0))) (he : ∀ x, x < ne → EO S xb M ea x) (hm : ∀ x, x ∈ il → x < ne) (so K b : Int32) : ∀ (n t fu : Nat) (r : Int32), t + n = il.length → n < fu → top M b (fun x => x ∈ il.take t ∧ stir M so K x) r → ∃ r', f_X0_lastStir_8 fu S a so K r (nI t) = some r' ∧ top M b (fun x => x ∈ il ∧ stir M so K x) r'
  | n, t, 0, r, _, h2, _ => by omega
  | 0, t, fu + 1, r, h1, _, ht => by
    have hb := hL.2.2.1
    unfold f_X0_lastStir_8
    simp only [getR_s ha, hr, Option.bind_some, rcv_s hL.1, L_size hL]
    rw [if_pos (nI_le (by omega) (by omega))]
    rw [List.take_of_length_le (by omega)] at ht
    exact ⟨r, rfl, ht⟩
  | n + 1, t, fu + 1, r, h1, h2, ht => by
    have hb := hL.2.2.1
    have htl : t < il.length := by omega
    have hx : il.getD t 0 < ne := by rw [getD_get htl]; exact hm _ (List.getElem_mem htl)
    have ho := he _ hx
    have htk : ∀ x, x ∈ il.take (t + 1) ↔ x ∈ il.take t ∨ x = il.getD t 0 := fun x => by
      rw [← List.take_append_getElem htl, List.mem_append, List.mem_singleton, getD_get htl]
    unfold f_X0_lastStir_8 f_X0_lastStir_60 f_X0_lastStir_61 f_J9_max_7cf53
    simp only [getR_s ha, hr, Option.bind_some, rcv_s hL.1, L_size hL]
    rw [if_neg (nI_ge (by omega) (by omega))]
    simp only [L_get hL htl, castO_s ho.1, getI_s ho.1, ho.2.2.1, ho.2.2.2.1, Option.bind_some, nI_1, lt_i, if_true]
    have keep : ¬ stir M so K (il.getD t 0) → ∃ r', f_X0_lastStir_8 fu S a so K r (nI (t + 1)) = some r' ∧ top M b (fun x => x ∈ il ∧ stir M so K x) r' := fun hn => by
      refine X_stir8 ha hr hL he hm so K b n (t + 1) fu r (by omega) (by omega) (top_cong ht (fun x => ?_))
      rw [htk]
      constructor
      · rintro ⟨q1, q2⟩; exact ⟨Or.inl q1, q2⟩
      · rintro ⟨q1 | q1, q2⟩
        · exact ⟨q1, q2⟩
        · rw [q1] at q2; exact absurd q2 hn
    rw [if_neg (show ¬ ((1 : Int32) = 0) by decide)]
    rcases ho.2.2.2.2.1 with ⟨z1, z2, -⟩ | ⟨⟨s, s1, s2⟩, z2, -⟩
    · rw [z2, if_pos rfl]
      exact keep (fun q => q.1 z1)
    · have hn1 : M 15 (il.getD t 0) ≠ -1 := by rw [s2, Ne, eq_i, nI_toInt (by omega)]; simp only [Int32.reduceToInt]; omega
      have hn6 : M 15 (il.getD t 0) ≠ 6 := by rw [s2, Ne, eq_i, nI_toInt (by omega)]; simp only [Int32.reduceToInt]; omega
      rw [z2, if_neg hn1]
      by_cases c4 : ((so >>> (M 15 (il.getD t 0) &&& 31)) &&& 1) = 1
      · rw [if_pos c4]
        by_cases c2 : K.toInt < (M 19 (il.getD t 0)).toInt
        · rw [if_pos c2]
          exact keep (fun q => by have := q.2.2; omega)
        · rw [if_neg c2]
          have hst : stir M so K (il.getD t 0) := ⟨hn6, c4, by omega⟩
          have h2' := top_add ht (il.getD t 0)
          have h3' : top M b (fun x => x ∈ il.take (t + 1) ∧ stir M so K x) (if r.toInt < (M 16 (il.getD t 0)).toInt then M 16 (il.getD t 0) else r) := top_cong h2' (fun x => by
            rw [htk]
            constructor
            · rintro (⟨q1, q2⟩ | q)
              · exact ⟨Or.inl q1, q2⟩
              · exact ⟨Or.inr q, by rw [q]; exact hst⟩
            · rintro ⟨q1 | q1, q2⟩
              · exact Or.inl ⟨q1, q2⟩
              · exact Or.inr q1)
          by_cases c5 : r.toInt < (M 16 (il.getD t 0)).toInt
          · rw [if_pos c5] at h3' ⊢
            exact X_stir8 ha hr hL he hm so K b n (t + 1) fu _ (by omega) (by omega) h3'
          · rw [if_neg c5] at h3' ⊢
            exact X_stir8 ha hr hL he hm so K b n (t + 1) fu _ (by omega) (by omega) h3'
      · rw [if_neg c4]
        exact keep (fun q => c4 q.2.1)
