/-! ROWS (arrays), casts, lengths -/
theorem inB_iff {i : Int32} {n : Nat} : inB i n = true ↔ ¬ (i < 0 ∨ n ≤ i.toNatClampNeg) := by simp [inB]
theorem isArr_of {s : State} {cA : ClassId} {ty : FieldType} (h : ArrOfT s cA ty) {cell : Cell} (h1 : cell.vm = .none) (h2 : cell.cls = cA) : s.isArrayOf cell ty := by
  obtain ⟨-, k, hk, comp, hkind⟩ := h 0 (fun _ => .null)
  exact ⟨fun q e => (by rw [h1] at e; cases e), k, (by rw [h2]; exact hk), comp, hkind⟩
section Arr
variable {p : Program} {l : Launch} {e : Env} {R : Room} {s : State} {m : MethodId} {args : Array Value} {below : List Frame} {meth : Method} {c : Code} {G : Ge} {S0 S S' : St} {Q : State → Prop} {y : MethodName} {cc : ByteArray} {nL : Nat} {ret : Option FieldType} {pc : Nat} {ls : Array Slot} {rest : List Value}
theorem arr_cell {H : Heap} (h1 : Rel G S H) {a ck : Nat} (hk : kd S a = ck) (hc1 : ¬ ck < 14) (hc2 : ck ≤ 20) : bs G ≤ a ∧ ∃ cell : Cell, H[a]? = some cell ∧ cell.vm = .none ∧ cell.cls = G.2.1 ck ∧ cell.slots.size = ln S a ∧ ∀ k, k < ln S a → cell.slots[k]? = some (vof S a k (fty ck k)) := by
  obtain ⟨-, -, -, -, -, -, r7, r8, r9⟩ := h1
  obtain ⟨z1, z2⟩ := r8 a (by omega)
  obtain ⟨-, cell, q1, q2, q3, q4, q5⟩ := r7 a z1 z2
  rw [hk] at q3 q5
  rw [szA (by omega)] at q4 q5
  exact ⟨z1, cell, q1, q2, by rw [q3, cidA hc1], q4, fun k hk' => by have := q5 k hk'; rwa [posA hc1] at this⟩
theorem arr_known {cell : Cell} (h : cell.vm = .none) : cell.vm ≠ .unknown := fun q => by rw [h] at q; cases q
theorem v_ldI_i (C : Cx p s m args meth c G S0 y cc nL ret) {r : Option Nat} {i v : Int32} (h : ldI S r 15 i = some v) (d : decode cc pc = .ok (.iaload, 1)) (kk : V p l e R s m args below meth c G S0 S Q (F0 m (pc + 1) ls (.int v :: rest))) : V p l e R s m args below meth c G S0 S Q (F0 m pc ls (.int i :: va_rf r :: rest)) := by
  intro H locs h1 h2 h3 h4
  cases r with
  | none => cases h
  | some a =>
    unfold ldI at h
    by_cases hq : kd S a = 15 ∧ inB i (ln S a) = true
    · simp only [if_pos hq] at h
      cases h
      obtain ⟨hx, hb, hml, hown, hts, ⟨hK, -⟩, -⟩ := C
      obtain ⟨z1, cell, q1, q2, q3, q4, q5⟩ := arr_cell h1 hq.1 (by omega) (by omega)
      have hin := inB_iff.mp hq.2
      have hlt : i.toNatClampNeg < ln S a := Nat.not_le.mp fun q => hin (Or.inr q)
      exact W.iald hx hb q1 (isArr_of (hK.2 1 _ rfl).1 q2 q3) (arr_known q2) (by rw [q4]; exact hin) (q5 _ hlt) rfl rfl d (kk H locs h1 h2 h3 h4)
    · simp only [if_neg hq] at h; cases h
theorem v_ldI_b (C : Cx p s m args meth c G S0 y cc nL ret) {r : Option Nat} {i v : Int32} (h : ldI S r 14 i = some v) (d : decode cc pc = .ok (.baload, 1)) (kk : V p l e R s m args below meth c G S0 S Q (F0 m (pc + 1) ls (.int v :: rest))) : V p l e R s m args below meth c G S0 S Q (F0 m pc ls (.int i :: va_rf r :: rest)) := by
  intro H locs h1 h2 h3 h4
  cases r with
  | none => cases h
  | some a =>
    unfold ldI at h
    by_cases hq : kd S a = 14 ∧ inB i (ln S a) = true
    · simp only [if_pos hq] at h
      cases h
      obtain ⟨hx, hb, hml, hown, hts, ⟨hK, -⟩, -⟩ := C
      obtain ⟨z1, cell, q1, q2, q3, q4, q5⟩ := arr_cell h1 hq.1 (by omega) (by omega)
      have hin := inB_iff.mp hq.2
      have hlt : i.toNatClampNeg < ln S a := Nat.not_le.mp fun q => hin (Or.inr q)
      exact W.bald hx hb q1 (isArr_of (hK.2 0 _ rfl).1 q2 q3) (arr_known q2) (by rw [q4]; exact hin) (q5 _ hlt) rfl rfl d (kk H locs h1 h2 h3 h4)
    · simp only [if_neg hq] at h; cases h
theorem v_ldI_z (C : Cx p s m args meth c G S0 y cc nL ret) {r : Option Nat} {i v : Int32} (h : ldI S r 17 i = some v) (d : decode cc pc = .ok (.baload, 1)) (kk : V p l e R s m args below meth c G S0 S Q (F0 m (pc + 1) ls (.int v :: rest))) : V p l e R s m args below meth c G S0 S Q (F0 m pc ls (.int i :: va_rf r :: rest)) := by
  intro H locs h1 h2 h3 h4
  cases r with
  | none => cases h
  | some a =>
    unfold ldI at h
    by_cases hq : kd S a = 17 ∧ inB i (ln S a) = true
    · simp only [if_pos hq] at h
      cases h
      obtain ⟨hx, hb, hml, hown, hts, ⟨hK, -⟩, -⟩ := C
      obtain ⟨z1, cell, q1, q2, q3, q4, q5⟩ := arr_cell h1 hq.1 (by omega) (by omega)
      have hin := inB_iff.mp hq.2
      have hlt : i.toNatClampNeg < ln S a := Nat.not_le.mp fun q => hin (Or.inr q)
      exact W.zald hx hb q1 (isArr_of (hK.2 3 _ rfl).1 q2 q3) (arr_known q2) (by rw [q4]; exact hin) (q5 _ hlt) rfl rfl d (kk H locs h1 h2 h3 h4)
    · simp only [if_neg hq] at h; cases h
theorem v_ldL (C : Cx p s m args meth c G S0 y cc nL ret) {r : Option Nat} {i : Int32} {v : Int64} (h : ldL S r i = some v) (d : decode cc pc = .ok (.laload, 1)) (kk : V p l e R s m args below meth c G S0 S Q (F0 m (pc + 1) ls (.long v :: rest))) : V p l e R s m args below meth c G S0 S Q (F0 m pc ls (.int i :: va_rf r :: rest)) := by
  intro H locs h1 h2 h3 h4
  cases r with
  | none => cases h
  | some a =>
    unfold ldL at h
    by_cases hq : kd S a = 16 ∧ inB i (ln S a) = true
    · simp only [if_pos hq] at h
      cases h
      obtain ⟨hx, hb, hml, hown, hts, ⟨hK, -⟩, -⟩ := C
      obtain ⟨z1, cell, q1, q2, q3, q4, q5⟩ := arr_cell h1 hq.1 (by omega) (by omega)
      have hin := inB_iff.mp hq.2
      have hlt : i.toNatClampNeg < ln S a := Nat.not_le.mp fun q => hin (Or.inr q)
      exact W.lald hx hb q1 (isArr_of (hK.2 2 _ rfl).1 q2 q3) (arr_known q2) (by rw [q4]; exact hin) (q5 _ hlt) rfl rfl d (kk H locs h1 h2 h3 h4)
    · simp only [if_neg hq] at h; cases h
theorem v_ldR (C : Cx p s m args meth c G S0 y cc nL ret) {r v : Option Nat} {ck t0 : Nat} {nm : String} {i : Int32} (h : ldR S r ck i = some v) (hc : ¬ ck < 14 ∧ ck ≤ 20) (ht : (tysOf G)[t0]? = some (G.2.1 ck, .object nm)) (hf : ∀ k, isRf (fty ck k) = true) (d : decode cc pc = .ok (.aaload, 1)) (kk : V p l e R s m args below meth c G S0 S Q (F0 m (pc + 1) ls (va_rf v :: rest))) : V p l e R s m args below meth c G S0 S Q (F0 m pc ls (.int i :: va_rf r :: rest)) := by
  intro H locs h1 h2 h3 h4
  cases r with
  | none => cases h
  | some a =>
    unfold ldR at h
    by_cases hq : kd S a = ck ∧ inB i (ln S a) = true
    · simp only [if_pos hq] at h
      cases h
      obtain ⟨hx, hb, hml, hown, hts, ⟨hK, -⟩, -⟩ := C
      obtain ⟨z1, cell, q1, q2, q3, q4, q5⟩ := arr_cell h1 hq.1 hc.1 hc.2
      have hin := inB_iff.mp hq.2
      have hlt : i.toNatClampNeg < ln S a := Nat.not_le.mp fun q => hin (Or.inr q)
      exact W.aald (ty := .object nm) hx hb q1 (isArr_of (hK.2 t0 _ ht).1 q2 q3) rfl (arr_known q2) (by rw [q4]; exact hin) (by rw [q5 _ hlt, vof_r (hf _)]) rfl rfl d (kk H locs h1 h2 h3 h4)
    · simp only [if_neg hq] at h; cases h
/-- behind a store: the new heap holds the new state -/
theorem st_next {H H' : Heap} {locs : List Loc} {a ck i : Nat} {v : Value} {cell : Cell} {g : JFrame} (h1 : Rel G S H) (h2 : Ext S0 S) (h3 : ∀ q, q < bs G → H[q]? = s.heap[q]?) (h4 : ∀ q ∈ locs, bs G ≤ q.base) (hk : kd S a = ck) (hc1 : ¬ ck < 14) (z1 : bs G ≤ a) (q1 : H[a]? = some cell) (q4 : cell.slots.size = ln S a) (hi : i < ln S a) (hS1 : S'.1 = S.1) (hS2 : S'.2.1 = S.2.1) (hvo : ∀ b j t, ¬ (b = a ∧ j = i) → vof S' b j t = vof S b j t) (hv : vof S' a i (fty ck i) = v) (hE : Ext S S')
    (e1 : H'[a]? = some (cell.setSlot i v)) (e2 : H'.size = H.size) (e3 : ∀ q, q ≠ a → H'[q]? = H[q]?) (kk : V p l e R s m args below meth c G S0 S' Q g) : W p l e R s m args below meth c H' (locs ++ [⟨a, i⟩]) (nx S - nx S0) (sl S - sl S0) Q g := by
  have hR : Rel G S' H' := by
    refine Rel_upd h1 hS1 hS2 (fun b j t hb => hvo b j t (fun q => hb q.1)) q1 e1 e2 e3 (by rw [q4]; exact hi) (fun j hj => ?_)
    rw [hk, posA hc1]
    by_cases hji : j = i
    · subst hji; exact Or.inl ⟨rfl, hv.symm⟩
    · exact Or.inr ⟨hji, hvo a j _ (fun q => hji q.2)⟩
  have n1 : nx S' = nx S := by unfold nx; rw [hS1]
  have n2 : sl S' = sl S := by unfold sl; rw [hS1]
  rw [← n1, ← n2]
  refine kk H' _ hR (h2.tr hE) (fun q hq => ?_) (fun q hq => ?_)
  · rw [e3 q (fun h => by omega)]; exact h3 q hq
  · rcases List.mem_append.mp hq with h | h
    · exact h4 q h
    · rw [List.mem_singleton.mp h]; exact z1
theorem v_stI_i (C : Cx p s m args meth c G S0 y cc nL ret) {r : Option Nat} {i v : Int32} (h : stI S r 15 i v = some S') (d : decode cc pc = .ok (.iastore, 1)) (kk : V p l e R s m args below meth c G S0 S' Q (F0 m (pc + 1) ls rest)) : V p l e R s m args below meth c G S0 S Q (F0 m pc ls (.int v :: .int i :: va_rf r :: rest)) := by
  intro H locs h1 h2 h3 h4
  cases r with
  | none => cases h
  | some a =>
    unfold stI at h
    by_cases hq : kd S a = 15 ∧ inB i (ln S a) = true
    · simp only [if_pos hq] at h
      cases h
      obtain ⟨hx, hb, hml, hown, hts, ⟨hK, -⟩, -⟩ := C
      obtain ⟨z1, cell, q1, q2, q3, q4, q5⟩ := arr_cell h1 hq.1 (by omega) (by omega)
      have hin := inB_iff.mp hq.2
      have hlt : i.toNatClampNeg < ln S a := Nat.not_le.mp fun q => hin (Or.inr q)
      refine W.iast hx hb q1 (isArr_of (hK.2 1 _ rfl).1 q2 q3) (arr_known q2) (by rw [q4]; exact hin) rfl rfl d (fun H' e1 e2 e3 => ?_)
      exact st_next (S' := setI S a i.toNatClampNeg (nrw 15 v)) h1 h2 h3 h4 hq.1 (by omega) z1 q1 q4 hlt rfl rfl (vof_setI S a _ _) (congrArg Value.int (mi_setI S a _ (nrw 15 v))) (Ext_setI S a _ _ (by omega)) e1 e2 e3 kk
    · simp only [if_neg hq] at h; cases h
theorem v_stI_b (C : Cx p s m args meth c G S0 y cc nL ret) {r : Option Nat} {i v : Int32} (h : stI S r 14 i v = some S') (d : decode cc pc = .ok (.bastore, 1)) (kk : V p l e R s m args below meth c G S0 S' Q (F0 m (pc + 1) ls rest)) : V p l e R s m args below meth c G S0 S Q (F0 m pc ls (.int v :: .int i :: va_rf r :: rest)) := by
  intro H locs h1 h2 h3 h4
  cases r with
  | none => cases h
  | some a =>
    unfold stI at h
    by_cases hq : kd S a = 14 ∧ inB i (ln S a) = true
    · simp only [if_pos hq] at h
      cases h
      obtain ⟨hx, hb, hml, hown, hts, ⟨hK, -⟩, -⟩ := C
      obtain ⟨z1, cell, q1, q2, q3, q4, q5⟩ := arr_cell h1 hq.1 (by omega) (by omega)
      have hin := inB_iff.mp hq.2
      have hlt : i.toNatClampNeg < ln S a := Nat.not_le.mp fun q => hin (Or.inr q)
      refine W.bast hx hb q1 (isArr_of (hK.2 0 _ rfl).1 q2 q3) (arr_known q2) (by rw [q4]; exact hin) rfl rfl d (fun H' e1 e2 e3 => ?_)
      exact st_next (S' := setI S a i.toNatClampNeg (nrw 14 v)) h1 h2 h3 h4 hq.1 (by omega) z1 q1 q4 hlt rfl rfl (vof_setI S a _ _) (congrArg Value.int (mi_setI S a _ (nrw 14 v))) (Ext_setI S a _ _ (by omega)) e1 e2 e3 kk
    · simp only [if_neg hq] at h; cases h
theorem v_stI_z (C : Cx p s m args meth c G S0 y cc nL ret) {r : Option Nat} {i v : Int32} (h : stI S r 17 i v = some S') (d : decode cc pc = .ok (.bastore, 1)) (kk : V p l e R s m args below meth c G S0 S' Q (F0 m (pc + 1) ls rest)) : V p l e R s m args below meth c G S0 S Q (F0 m pc ls (.int v :: .int i :: va_rf r :: rest)) := by
  intro H locs h1 h2 h3 h4
  cases r with
  | none => cases h
  | some a =>
    unfold stI at h
    by_cases hq : kd S a = 17 ∧ inB i (ln S a) = true
    · simp only [if_pos hq] at h
      cases h
      obtain ⟨hx, hb, hml, hown, hts, ⟨hK, -⟩, -⟩ := C
      obtain ⟨z1, cell, q1, q2, q3, q4, q5⟩ := arr_cell h1 hq.1 (by omega) (by omega)
      have hin := inB_iff.mp hq.2
      have hlt : i.toNatClampNeg < ln S a := Nat.not_le.mp fun q => hin (Or.inr q)
      refine W.zast hx hb q1 (isArr_of (hK.2 3 _ rfl).1 q2 q3) (arr_known q2) (by rw [q4]; exact hin) rfl rfl d (fun H' e1 e2 e3 => ?_)
      exact st_next (S' := setI S a i.toNatClampNeg (nrw 17 v)) h1 h2 h3 h4 hq.1 (by omega) z1 q1 q4 hlt rfl rfl (vof_setI S a _ _) (congrArg Value.int (mi_setI S a _ (nrw 17 v))) (Ext_setI S a _ _ (by omega)) e1 e2 e3 kk
    · simp only [if_neg hq] at h; cases h
theorem v_stL (C : Cx p s m args meth c G S0 y cc nL ret) {r : Option Nat} {i : Int32} {v : Int64} (h : stL S r i v = some S') (d : decode cc pc = .ok (.lastore, 1)) (kk : V p l e R s m args below meth c G S0 S' Q (F0 m (pc + 1) ls rest)) : V p l e R s m args below meth c G S0 S Q (F0 m pc ls (.long v :: .int i :: va_rf r :: rest)) := by
  intro H locs h1 h2 h3 h4
  cases r with
  | none => cases h
  | some a =>
    unfold stL at h
    by_cases hq : kd S a = 16 ∧ inB i (ln S a) = true
    · simp only [if_pos hq] at h
      cases h
      obtain ⟨hx, hb, hml, hown, hts, ⟨hK, -⟩, -⟩ := C
      obtain ⟨z1, cell, q1, q2, q3, q4, q5⟩ := arr_cell h1 hq.1 (by omega) (by omega)
      have hin := inB_iff.mp hq.2
      have hlt : i.toNatClampNeg < ln S a := Nat.not_le.mp fun q => hin (Or.inr q)
      refine W.last hx hb q1 (isArr_of (hK.2 2 _ rfl).1 q2 q3) (arr_known q2) (by rw [q4]; exact hin) rfl rfl d (fun H' e1 e2 e3 => ?_)
      exact st_next (S' := setL S a i.toNatClampNeg v) h1 h2 h3 h4 hq.1 (by omega) z1 q1 q4 hlt rfl rfl (vof_setL S a _ v) (congrArg Value.long (ml_setL S a _ v)) (Ext_setL S a _ v) e1 e2 e3 kk
    · simp only [if_neg hq] at h; cases h
theorem v_stR (C : Cx p s m args meth c G S0 y cc nL ret) {r v : Option Nat} {ck t0 : Nat} {nm : String} {i : Int32} (h : stR S r ck i v = some S') (hc : ck = 18 ∧ t0 = 4 ∧ nm = RX6 ∨ ck = 19 ∧ t0 = 5 ∧ nm = RX8 ∨ ck = 20 ∧ t0 = 6 ∧ nm = "java/lang/Object") (d : decode cc pc = .ok (.aastore, 1)) (kk : V p l e R s m args below meth c G S0 S' Q (F0 m (pc + 1) ls rest)) : V p l e R s m args below meth c G S0 S Q (F0 m pc ls (va_rf v :: .int i :: va_rf r :: rest)) := by
  intro H locs h1 h2 h3 h4
  cases r with
  | none => cases h
  | some a =>
    cases v with
    | none => cases h
    | some b =>
    unfold stR at h
    by_cases hq : kd S a = ck ∧ inB i (ln S a) = true ∧ fitR S ck b = true
    · simp only [if_pos hq] at h
      cases h
      obtain ⟨hk, hi, hfit⟩ := hq
      obtain ⟨hx, hb, hml, hown, hts, ⟨hK, -, -, -, -, -, hcast⟩, -⟩ := C
      have hck : ¬ ck < 14 ∧ ck ≤ 20 := by omega
      have hty : (tysOf G)[t0]? = some (G.2.1 ck, .object nm) := by
        rcases hc with ⟨rfl, rfl, rfl⟩ | ⟨rfl, rfl, rfl⟩ | ⟨rfl, rfl, rfl⟩ <;> rfl
      have hf : ∀ k, isRf (fty ck k) = true := by
        rcases hc with ⟨rfl, rfl, rfl⟩ | ⟨rfl, rfl, rfl⟩ | ⟨rfl, rfl, rfl⟩ <;> intro k <;> rfl
      obtain ⟨z1, cell, q1, q2, q3, q4, q5⟩ := arr_cell h1 hk hck.1 hck.2
      have hin := inB_iff.mp hi
      have hlt : i.toNatClampNeg < ln S a := Nat.not_le.mp fun q => hin (Or.inr q)
      have h0 : ¬ i < 0 := fun q => hin (Or.inl q)
      have hb14 : kd S b < 14 := by
        unfold fitR at hfit
        rcases hc with ⟨rfl, -, -⟩ | ⟨rfl, -, -⟩ | ⟨rfl, -, -⟩ <;> simp at hfit <;> omega
      obtain ⟨-, -, -, -, -, -, r7, r8, r9⟩ := id h1
      obtain ⟨y1, y2⟩ := r8 b (by omega)
      obtain ⟨-, cellV, g1, g2, g3, -⟩ := r7 b y1 y2
      rw [cidO hb14] at g3
      obtain ⟨kA, comp, k1, k2, k3, -⟩ := (hK.2 t0 _ hty).2
      obtain ⟨kE, hkE, -⟩ := Vm.findClass_spec k3
      have hlen : kd S b < vwCl.length := hb14
      obtain ⟨rr, hrr⟩ : ∃ rr, vwCl[kd S b]? = some rr := ⟨vwCl[kd S b], List.getElem?_eq_getElem hlen⟩
      have hcl := (hK.1 _ rr hrr).2
      obtain ⟨kC, hkC, -⟩ := hcl.2
      have hasg : s.vm.assignable (G.1.1 (kd S b)) comp = true := by
        unfold fitR at hfit
        rcases hc with ⟨rfl, rfl, rfl⟩ | ⟨rfl, rfl, rfl⟩ | ⟨rfl, rfl, rfl⟩
        · have e7 : kd S b = 7 := by simpa using hfit
          rw [e7] at hcl hrr ⊢
          cases hrr
          have : comp = G.1.1 7 := Option.some.inj (k3.symm.trans hcl.1)
          rw [this]; exact va_assign hcl
        · have e7 : kd S b = 9 := by simpa using hfit
          rw [e7] at hcl hrr ⊢
          cases hrr
          have : comp = G.1.1 9 := Option.some.inj (k3.symm.trans hcl.1)
          rw [this]; exact va_assign hcl
        · obtain ⟨c0, t1, f1, f2, f3⟩ := Cond.castable_spec (va_Nw.use (A := args) rfl (hcast rr (List.mem_of_getElem? hrr)))
          cases hcl.1.symm.trans f1
          cases k3.symm.trans f2
          exact f3
      refine W.aast hx hb q1 (fun q h => by rw [q2] at h; cases h) (arr_known q2) (by rw [q3]; exact k1) k2 rfl hkE ⟨h0, by rw [q4]; exact hlt⟩ g1 (fun q h => by rw [g2] at h; cases h) (by rw [g3]; exact hkC) (by rw [g3]; exact hasg) rfl rfl d (fun H' e1 e2 e3 => ?_)
      exact st_next (S' := setR S a i.toNatClampNeg (some b)) h1 h2 h3 h4 hk hck.1 z1 q1 q4 hlt rfl rfl (vof_setR S a _ (some b)) (by rw [vof_r (hf _), mr_setR]; rfl) (Ext_setR S a _ (some b) (by omega)) e1 e2 e3 kk
    · simp only [if_neg hq] at h; cases h
theorem tys_at (G : Ge) {ck : Nat} (h1 : 14 ≤ ck) (h2 : ck ≤ 20) : ∃ ty, (tysOf G)[ck - 14]? = some (G.2.1 ck, ty) := by
  have : ck = 14 ∨ ck = 15 ∨ ck = 16 ∨ ck = 17 ∨ ck = 18 ∨ ck = 19 ∨ ck = 20 := by omega
  rcases this with rfl | rfl | rfl | rfl | rfl | rfl | rfl <;> exact ⟨_, rfl⟩
theorem LF_kept {U : State} {H : Heap} (h : LF G S0 s s.heap) (h1 : Rel G S H) (h2 : Ext S0 S) (h0 : Rel G S0 s.heap) (h3 : ∀ q, q < bs G → H[q]? = s.heap[q]?) (hvm : s.vm.Alike U.vm) : LF G S U H := by
  obtain ⟨a1, a2, a3, a4, a5, a6⟩ := h
  have hq : ∀ a : Nat, a < s.heap.size → ¬ (fun q => bs G ≤ q) a → H[a]? = s.heap[a]? := fun a _ h => h3 a (Nat.not_le.mp h)
  have lo : ∀ a, 21 ≤ kd S a → kd S a ≤ 22 → a < nx S0 := by
    intro a z1 z2
    obtain ⟨-, -, -, -, -, -, r7, r8, r9⟩ := h1
    obtain ⟨-, b2, -⟩ := h0
    rcases Nat.lt_or_ge a (nx S0) with h | h
    · exact h
    · rcases Nat.lt_or_ge a (nx S) with h' | h'
      · have := (r7 a (by omega) h').1; omega
      · have := r9 a h'; omega
  refine ⟨?_, (a2.kept hq).moved hvm, ?_, fun a h => ?_, fun a h => ?_, ?_⟩
  · rw [h2.2.2.2.1]; exact (a1.kept hq).moved hvm
  · rw [h2.2.2.2.1]; exact (a3.kept hq).moved hvm
  · have e := h2.2.2.2.2.2 a (lo a (by omega) (by omega))
    rw [h2.2.2.2.1]
    exact a4 a (by rw [← e.1]; exact h)
  · have e := h2.2.2.2.2.2 a (lo a (by omega) (by omega))
    have k0 : kd S0 a = 22 := by rw [← e.1]; exact h
    obtain ⟨v, by0, s0, s1, s2, s3, s4, s5, s6⟩ := a5 a k0
    rw [e.2.1, (e.2.2 (by omega)).1, (e.2.2 (by omega)).2]
    exact ⟨v, by0, s0, (s1.kept hq).moved hvm, (s2.kept hq).moved hvm, (s3.kept hq).moved hvm, (s4.kept hq).moved hvm, s5, s6⟩
  · rcases a6 with h | ⟨t, h⟩
    · exact Or.inl ((h.kept hq).moved hvm)
    · exact Or.inr ⟨t, (h.kept hq).moved hvm⟩
theorem v_alen (C : Cx p s m args meth c G S0 y cc nL ret) {r : Option Nat} {v : Int32} (h : alen S r = some v) (d : decode cc pc = .ok (.arraylength, 1)) (kk : V p l e R s m args below meth c G S0 S Q (F0 m (pc + 1) ls (.int v :: rest))) : V p l e R s m args below meth c G S0 S Q (F0 m pc ls (va_rf r :: rest)) := by
  intro H locs h1 h2 h3 h4
  cases r with
  | none => cases h
  | some a =>
    unfold alen at h
    by_cases h21 : kd S a = 21
    · simp only [if_pos h21] at h
      cases h
      obtain ⟨hx, hb, hml, hown, hts, ⟨hK, -⟩, hL, -, -, hR0, -⟩ := C
      obtain ⟨-, -, l3, l4, -⟩ := LF_kept (U := s) hL h1 h2 hR0 h3 (Vm.Alike.refl s.vm)
      obtain ⟨cell, c1, c2, c3, c4, c5, -⟩ := l3
      rw [← l4 a h21] at c1
      exact W.alen hx hb c1 c2 c5 rfl rfl d (kk H locs h1 h2 h3 h4)
    · simp only [if_neg h21] at h
      by_cases hq : 14 ≤ kd S a ∧ kd S a ≤ 20
      · simp only [if_pos hq] at h
        cases h
        obtain ⟨hx, hb, hml, hown, hts, ⟨hK, -⟩, -⟩ := C
        obtain ⟨z1, cell, q1, q2, q3, q4, q5⟩ := arr_cell h1 rfl (by omega) hq.2
        obtain ⟨ty, hty⟩ := tys_at G hq.1 hq.2
        exact W.alen hx hb q1 (isArr_of (hK.2 _ _ hty).1 q2 q3) (by rw [q4]; rfl) rfl rfl d (kk H locs h1 h2 h3 h4)
      · simp only [if_neg hq] at h; cases h
theorem obj_cell {H : Heap} (h1 : Rel G S H) (hK : va_K G.1 vwCl (tysOf G) s) {a ci : Nat} (hk : kd S a = ci) (hc : ci < 14) {r : vw_C} (hr : vwCl[ci]? = some r) : ∃ cell : Cell, H[a]? = some cell ∧ cell.vm.isStatics = false ∧ s.vm.findClass r.1 = some cell.cls := by
  obtain ⟨-, -, -, -, -, -, r7, r8, r9⟩ := h1
  obtain ⟨z1, z2⟩ := r8 a (by omega)
  obtain ⟨-, cell, q1, q2, q3, -⟩ := r7 a z1 z2
  refine ⟨cell, q1, by rw [q2]; rfl, ?_⟩
  rw [q3, hk, cidO hc]
  exact (hK.1 ci r hr).2.1
theorem v_cast (C : Cx p s m args meth c G S0 y cc nL ret) {r v : Option Nat} {index ci : Nat} {q : vw_C} (h : castO S r ci = some v) (hc : ci < 14) (hq : vwCl[ci]? = some q) (hw : Cond.classLink y.cls index q.1 ∈ gw) (d : decode cc pc = .ok (.checkcast index, 3)) (kk : V p l e R s m args below meth c G S0 S Q (F0 m (pc + 3) ls (va_rf v :: rest))) : V p l e R s m args below meth c G S0 S Q (F0 m pc ls (va_rf r :: rest)) := by
  intro H locs h1 h2 h3 h4
  cases r with
  | none =>
    cases h
    exact lv_castN C.1 C.2.1 d (kk H locs h1 h2 h3 h4)
  | some a =>
    unfold castO at h
    by_cases hk : kd S a = ci
    · simp only [if_pos hk] at h
      cases h
      obtain ⟨hx, hb, hml, hown, hts, ⟨hK, -⟩, -⟩ := C
      exact va_castS hx hb hown (hts _ hw) (hK.1 ci q hq).2 (obj_cell h1 hK hk hc hq) d (kk H locs h1 h2 h3 h4)
    · simp only [if_neg hk] at h; cases h
end Arr
