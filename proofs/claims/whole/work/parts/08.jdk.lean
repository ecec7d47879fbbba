/-! THE JDK's OWN: arraycopy, getClass, class constants, texts -/
def cpyR (S : St) (a sp b dp n : Nat) : St := (S.1, S.2.1, mi S, ml S, fun q j => if q = b ∧ dp ≤ j ∧ j < dp + n then mr S a (sp + (j - dp)) else mr S q j)
def okE (S : St) (a sp n : Nat) : Bool := (List.range n).all (fun i => match mr S a (sp + i) with
  | none => true
  | some z => decide (kd S z < 14))
def acopy (S : St) (r : Option Nat) (sp : Int32) (r2 : Option Nat) (dp n : Int32) : Option St := match r, r2 with
  | some a, some b => if (kd S a = 20 ∧ kd S b = 20) ∧ (¬ sp < 0 ∧ ¬ dp < 0 ∧ ¬ n < 0) ∧ (sp.toNatClampNeg + n.toNatClampNeg ≤ ln S a ∧ dp.toNatClampNeg + n.toNatClampNeg ≤ ln S b) ∧ okE S a sp.toNatClampNeg n.toNatClampNeg = true then some (cpyR S a sp.toNatClampNeg b dp.toNatClampNeg n.toNatClampNeg) else none
  | _, _ => none
def gcls (S : St) (r : Option Nat) : Option (Option Nat) := match r with
  | some a => if kd S a = 20 then some (some (lit S 15)) else none
  | none => none
theorem Ext_cpyR (S : St) (a sp b dp n : Nat) (h : kd S b ≤ 20) : Ext S (cpyR S a sp b dp n) := by
  refine ⟨Nat.le_refl _, Nat.le_refl _, rfl, rfl, rfl, fun z _ => ⟨rfl, rfl, fun q => ?_⟩⟩
  have hne : z ≠ b := fun e => by subst e; omega
  refine ⟨rfl, ?_⟩
  funext j
  simp [mr, cpyR, hne]
theorem sp_keep (o : Nat) : ∀ (vs : List (Value × Nat)) (cl0 : Cell), (cl0.storePairs o vs).slots.size = cl0.slots.size ∧ (cl0.storePairs o vs).vm = cl0.vm ∧ (cl0.storePairs o vs).cls = cl0.cls
  | [], _ => ⟨rfl, rfl, rfl⟩
  | q :: r, cl0 => by
    have h := sp_keep o r (cl0.setSlot (o + q.2) q.1)
    refine ⟨h.1.trans ?_, h.2.1, h.2.2⟩
    rw [setSlot_sl, Array.size_setIfInBounds]
theorem sp_read (o : Nat) : ∀ (vs : List Value) (i0 : Nat) (cl0 : Cell) (k : Nat), k < cl0.slots.size → (cl0.storePairs o (vs.zipIdx i0)).slots[k]? = if o + i0 ≤ k ∧ k < o + i0 + vs.length then vs[k - (o + i0)]? else cl0.slots[k]?
  | [], i0, cl0, k, _ => by
    rw [if_neg (by simp)]; rfl
  | v :: r, i0, cl0, k, hk => by
    have h := sp_read o r (i0 + 1) (cl0.setSlot (o + i0) v) k (by rw [setSlot_sl, Array.size_setIfInBounds]; exact hk)
    show ((cl0.setSlot (o + i0) v).storePairs o (r.zipIdx (i0 + 1))).slots[k]? = _
    rw [h]
    by_cases h1 : o + (i0 + 1) ≤ k ∧ k < o + (i0 + 1) + r.length
    · rw [if_pos h1, if_pos (by simp only [List.length_cons]; omega), show k - (o + i0) = (k - (o + (i0 + 1))) + 1 by omega, List.getElem?_cons_succ]
    · rw [if_neg h1, setSlot_sl, Array.getElem?_setIfInBounds]
      by_cases h2 : o + i0 = k
      · rw [if_pos h2, if_pos (by omega), if_pos (by simp only [List.length_cons]; omega), show k - (o + i0) = 0 by omega]; rfl
      · rw [if_neg h2, if_neg (by simp only [List.length_cons]; omega)]
section Jdk
variable {p : Program} {l : Launch} {e : Env} {R : Room} {s : State} {m : MethodId} {args : Array Value} {below : List Frame} {meth : Method} {c : Code} {G : Ge} {S0 S S' : St} {Q : State → Prop} {y : MethodName} {cc : ByteArray} {nL : Nat} {ret : Option FieldType} {pc : Nat} {ls : Array Slot} {rest : List Value} {fr lo index : Nat}
theorem v_acopy (C : Cx p s m args meth c G S0 y cc nL ret) {r r2 : Option Nat} {sp dp n : Int32} (h : acopy S r sp r2 dp n = some S') (hw1 : Cond.methodLink y.cls index arraycopyName ∈ gw) (hw2 : Cond.native arraycopyName ∈ gw) (hw3 : Cond.static arraycopyName ∈ gw) (hw4 : Cond.initialized "java/lang/System" ∈ gw) (hr : 1 ≤ fr ∧ 8 + (nativeFrameWords "java/lang/System" "arraycopy" 5 + 11) ≤ lo) (hsum : (rest.map fun v => v.category).sum ≤ 8) {lv : List (Nat × Value)} (hls : lv_has ls nL lv) (d : decode cc pc = .ok (.invokestatic index, 3)) (kk : V p l e (rmo fr lo S0) s m args below meth c G S0 S' Q (F0 m (pc + 3) ls rest)) : V p l e (rmo fr lo S0) s m args below meth c G S0 S Q (F0 m pc ls (.int n :: .int dp :: va_rf r2 :: .int sp :: va_rf r :: rest)) := by
  intro H locs h1 h2 h3 h4
  cases r with
  | none => cases h
  | some a =>
  cases r2 with
  | none => cases h
  | some b =>
    unfold acopy at h
    by_cases hq : (kd S a = 20 ∧ kd S b = 20) ∧ (¬ sp < 0 ∧ ¬ dp < 0 ∧ ¬ n < 0) ∧ (sp.toNatClampNeg + n.toNatClampNeg ≤ ln S a ∧ dp.toNatClampNeg + n.toNatClampNeg ≤ ln S b) ∧ okE S a sp.toNatClampNeg n.toNatClampNeg = true
    · simp only [if_pos hq] at h
      cases h
      obtain ⟨⟨ka, kb⟩, ⟨p1, p2, p3⟩, ⟨p4, p5⟩, pe⟩ := hq
      obtain ⟨hx, hb, hml, hown, hts, ⟨hK, -, -, -, -, -, hcast⟩, -⟩ := id C
      obtain ⟨za, ca, a1, a2, a3, a4, a5⟩ := arr_cell h1 ka (by omega) (by omega)
      obtain ⟨zb, cb, b1, b2, b3, b4, b5⟩ := arr_cell h1 kb (by omega) (by omega)
      have nn : ∀ z : Int32, ¬ z < 0 → z.toInt = (z.toNatClampNeg : Int) := by
        intro z hz
        have hz0 : (0 : Int) ≤ z.toInt := by
          have := Int32.not_lt.mp hz
          simpa using Int32.le_iff_toInt_le.mp this
        show z.toInt = ((z.toInt.toNat : Nat) : Int)
        omega
      obtain ⟨kA, comp, k1, k2, k3, -⟩ := (hK.2 6 _ rfl).2
      obtain ⟨kE, hkE, -⟩ := Vm.findClass_spec k3
      intro T hT X
      obtain ⟨vm', X', step⟩ := X.arraycopy hx hown (hts _ hw1) (hts _ hw2) (hts _ hw3) (hts _ hw4) (src := a) (dst := b) (cs := ca) (cd := cb) (srcPos := sp) (destPos := dp) (n := n) (by rw [hT]; exact a1) (by rw [hT]; exact b1)
        (fun q h => by rw [a2] at h; cases h) (fun q h => by rw [b2] at h; cases h) (arr_known a2) (arr_known b2) (by rw [a3]; exact k1) (by rw [b3]; exact k1) k2 k2 rfl p1 p2 p3 (by rw [nn sp p1, nn n p3, a4]; omega) (by rw [nn dp p2, nn n p3, b4]; omega)
        (fun vm₁ hal i hi => by
          have e9 : ca.slots.getD (sp.toNatClampNeg + i) .null = va_rf (mr S a (sp.toNatClampNeg + i)) := by
            rw [Array.getD_eq_getD_getElem?, a5 _ (by omega)]
            rfl
          rw [e9]
          cases hy : mr S a (sp.toNatClampNeg + i) with
          | none => exact ⟨rfl, trivial⟩
          | some z =>
            have hz : kd S z < 14 := by
              have := List.all_eq_true.mp pe i (List.mem_range.mpr hi)
              rw [hy] at this
              simpa using this
            have hlen : kd S z < vwCl.length := hz
            obtain ⟨rr, hrr⟩ : ∃ rr, vwCl[kd S z]? = some rr := ⟨vwCl[kd S z], List.getElem?_eq_getElem hlen⟩
            obtain ⟨cellV, g1, g2, g3⟩ := obj_cell h1 hK rfl hz hrr
            obtain ⟨kC, hkC, -⟩ := Vm.findClass_spec g3
            obtain ⟨c0, t1, f1, f2, f3⟩ := Cond.castable_spec (va_Nw.use (A := args) rfl (hcast rr (List.mem_of_getElem? hrr)))
            cases g3.symm.trans f1
            cases k3.symm.trans f2
            obtain ⟨kC', hkC', -⟩ := hal.2.2 _ _ hkC
            obtain ⟨kE', hkE', -⟩ := hal.2.2 _ _ hkE
            refine ⟨rfl, cellV, (show T.heap[z]? = some cellV by rw [hT]; exact g1), (fun q h => by rw [h] at g2; cases g2), ⟨kC', hkC'⟩, ?_, ?_⟩
            · exact ⟨kE', hkE'⟩
            · show vm₁.assignable _ _ = true
              rw [hal.assignable]
              exact f3)
        (g := F0 m pc ls (.int n :: .int dp :: .ref b :: .int sp :: .ref a :: rest)) rfl (by rw [hml]; exact hls.1) (rest := rest) rfl (by rw [hb]; exact d) hr.1 (by show 2 * 0 + _ + _ ≤ lo; omega)
      have hcp : copied ca cb sp dp n = cb.storePairs dp.toNatClampNeg ((ca.stretch sp.toNatClampNeg n.toNatClampNeg).zipIdx) := rfl
      have hkp := sp_keep dp.toNatClampNeg ((ca.stretch sp.toNatClampNeg n.toNatClampNeg).zipIdx) cb
      rw [← hcp] at hkp
      have hlt : b < H.size := (Array.getElem?_eq_some_iff.mp b1).1
      have hheap : ((T.setVm vm').setCell b (copied ca cb sp dp n)).heap = H.setIfInBounds b (copied ca cb sp dp n) := by rw [← hT]; rfl
      have e1 : (H.setIfInBounds b (copied ca cb sp dp n))[b]? = some (copied ca cb sp dp n) := by simp [Array.getElem?_setIfInBounds, hlt]
      have e3 : ∀ q, q ≠ b → (H.setIfInBounds b (copied ca cb sp dp n))[q]? = H[q]? := fun q hq => by simp [Array.getElem?_setIfInBounds, Ne.symm hq]
      have hR : Rel G (cpyR S a sp.toNatClampNeg b dp.toNatClampNeg n.toNatClampNeg) (H.setIfInBounds b (copied ca cb sp dp n)) := by
        obtain ⟨r1, r2, r3, r4, r5, r6, r7, r8, r9⟩ := id h1
        refine ⟨by rw [Array.size_setIfInBounds, r1]; rfl, r2, r3, r4, r5, r6.trans (sumz_ext (S := S) (S' := cpyR S a sp.toNatClampNeg b dp.toNatClampNeg n.toNatClampNeg) (nx S - bs G) (fun _ _ _ => rfl)).symm, fun q z1 z2 => ⟨(r7 q z1 z2).1, ?_⟩, r8, r9⟩
        by_cases hqb : q = b
        · subst hqb
          refine ⟨_, e1, by rw [hkp.2.1]; exact b2, by rw [hkp.2.2, b3]; show _ = cidOf G (kd S q); rw [kb]; rfl, ?_, fun k hk => ?_⟩
          · rw [hkp.1, b4]; show _ = szo S q; rw [szA (by omega)]
          · have hk' : k < ln S q := by have : k < szo S q := hk; rwa [szA (by omega)] at this
            show (copied ca cb sp dp n).slots[posOf G (kd S q) k]? = some (vof (cpyR S a sp.toNatClampNeg q dp.toNatClampNeg n.toNatClampNeg) q k (fty (kd S q) k))
            rw [kb, posA (by omega), hcp, sp_read _ _ 0 cb k (by rw [b4]; exact hk'), vof_r (show isRf (fty 20 k) = true from rfl)]
            have hl : (ca.stretch sp.toNatClampNeg n.toNatClampNeg).length = n.toNatClampNeg := by simp [Cell.stretch]
            rw [hl, Nat.add_zero]
            by_cases hin : dp.toNatClampNeg ≤ k ∧ k < dp.toNatClampNeg + n.toNatClampNeg
            · rw [if_pos hin]
              simp only [Cell.stretch, List.getElem?_map]
              rw [List.getElem?_range (by omega)]
              simp only [Option.map_some, Array.getD_eq_getD_getElem?]
              rw [a5 _ (by omega)]
              simp [cpyR, mr, hin, vof, fty]
            · rw [if_neg hin, b5 k hk', vof_r (show isRf (fty 20 k) = true from rfl)]
              simp only [cpyR, mr]
              rw [if_neg (fun z => hin z.2)]
        · obtain ⟨-, c0, y1, y2, y3, y4, y5⟩ := r7 q z1 z2
          refine ⟨c0, by rw [e3 q hqb]; exact y1, y2, y3, y4, fun k hk => (y5 k hk).trans ?_⟩
          show some (vof S q k (fty (kd S q) k)) = some (vof _ q k (fty (kd S q) k))
          congr 1
          cases fty (kd S q) k <;> simp [vof, cpyR, mi, ml, mr, hqb]
      obtain ⟨t, w1, w2⟩ := kk _ (locs ++ (ca.stretch sp.toNatClampNeg n.toNatClampNeg).zipIdx.map fun q => ⟨b, dp.toNatClampNeg + q.2⟩) hR (h2.tr (Ext_cpyR S _ _ _ _ _ (by omega))) (fun q hq => by rw [e3 q (by omega)]; exact h3 q hq) (fun q hq => by
        rcases List.mem_append.mp hq with h | h
        · exact h4 q h
        · obtain ⟨z, -, hz⟩ := List.mem_map.mp h
          rw [← hz]; exact zb) _ hheap X'
      exact ⟨t, step t w1, w2⟩
    · simp only [if_neg hq] at h; cases h
theorem v_ldcM (C : Cx p s m args meth c G S0 y cc nL ret) (hw : Cond.classLink y.cls index "[Ljava/lang/Object;" ∈ gw) (d : decode cc pc = .ok (.ldc index, 2)) (kk : V p l e R s m args below meth c G S0 S Q (F0 m (pc + 2) ls (va_rf (some (lit S 15)) :: rest))) : V p l e R s m args below meth c G S0 S Q (F0 m pc ls rest) := by
  intro H locs h1 h2 h3 h4
  obtain ⟨hx, hb, hml, hown, hts, ⟨-, -, -, -, hM, -⟩, -⟩ := id C
  rw [← h2.2.2.2.2.1] at hM
  exact va_ldcM hx hb hown (hts _ hw) hM d (kk H locs h1 h2 h3 h4)
theorem v_getC (C : Cx p s m args meth c G S0 y cc nL ret) {r v : Option Nat} (h : gcls S r = some v) (hw1 : Cond.methodLink y.cls index ⟨"java/lang/Object", "getClass", "()Ljava/lang/Class;"⟩ ∈ gw) (hw2 : Cond.selects "[Ljava/lang/Object;" ⟨"java/lang/Object", "getClass", "()Ljava/lang/Class;"⟩ ⟨"java/lang/Object", "getClass", "()Ljava/lang/Class;"⟩ ∈ gw) (hw3 : Cond.instanceMethod ⟨"java/lang/Object", "getClass", "()Ljava/lang/Class;"⟩ ∈ gw) (hw4 : Cond.native ⟨"java/lang/Object", "getClass", "()Ljava/lang/Class;"⟩ ∈ gw) (hr : 1 ≤ fr ∧ 22 ≤ lo) (hsum : (rest.map fun v => v.category).sum ≤ 8) {lv : List (Nat × Value)} (hls : lv_has ls nL lv) (d : decode cc pc = .ok (.invokevirtual index, 3)) (kk : V p l e (rmo fr lo S0) s m args below meth c G S0 S Q (F0 m (pc + 3) ls (va_rf v :: rest))) : V p l e (rmo fr lo S0) s m args below meth c G S0 S Q (F0 m pc ls (va_rf r :: rest)) := by
  intro H locs h1 h2 h3 h4
  cases r with
  | none => cases h
  | some a =>
    unfold gcls at h
    by_cases hq : kd S a = 20
    · simp only [if_pos hq] at h
      cases h
      obtain ⟨hx, hb, hml, hown, hts, ⟨hK, -, -, -, hM, hD, -⟩, -⟩ := id C
      obtain ⟨za, ca, a1, a2, a3, a4, a5⟩ := arr_cell h1 hq (by omega) (by omega)
      rw [← h2.2.2.2.2.1] at hM
      exact va_getC hx hb (by rw [hml]; exact hls.1.symm) hown (hts _ hw1) (va_Dc.use hD) (hts _ hw2) (hts _ hw3) (hts _ hw4) hM ⟨ca, a1, by rw [a2]; rfl, by rw [a3]; exact va_nmO (hK.2 6 _ rfl).2 rfl⟩ hr.1 (by show _ ≤ lo; omega) d (kk H locs h1 h2 h3 h4)
    · simp only [if_neg hq] at h; cases h
-- a literal's fields
theorem v_getSv (C : Cx p s m args meth c G S0 y cc nL ret) {a : Nat} (hk : kd S a = 22) (hw : Cond.fieldLink y.cls index "java/lang/String" "value" "[B" ∈ gw) (d : decode cc pc = .ok (.getfield index, 3)) (kk : V p l e R s m args below meth c G S0 S Q (F0 m (pc + 3) ls (va_rf (mr S a 0) :: rest))) : V p l e R s m args below meth c G S0 S Q (F0 m pc ls (va_rf (some a) :: rest)) := by
  intro H locs h1 h2 h3 h4
  obtain ⟨hx, hb, hml, hown, hts, -, hL, -, -, hR0, -⟩ := id C
  obtain ⟨-, -, -, -, l5, -⟩ := LF_kept (U := s) hL h1 h2 hR0 h3 (Vm.Alike.refl s.vm)
  obtain ⟨v, by0, s0, s1, ⟨cf, k, i, f, cell, g1, g2, g3, g4, g5, -⟩, -⟩ := l5 a hk
  have hk9 := kk H locs h1 h2 h3 h4
  rw [s0] at hk9
  exact W.getf hx hb hown (hts _ hw) g1 g2 g3 g4 g5 rfl rfl d hk9
theorem v_getSc (C : Cx p s m args meth c G S0 y cc nL ret) {a : Nat} (hk : kd S a = 22) (hw : Cond.fieldLink y.cls index "java/lang/String" "coder" "B" ∈ gw) (d : decode cc pc = .ok (.getfield index, 3)) (kk : V p l e R s m args below meth c G S0 S Q (F0 m (pc + 3) ls (.int 0 :: rest))) : V p l e R s m args below meth c G S0 S Q (F0 m pc ls (va_rf (some a) :: rest)) := by
  intro H locs h1 h2 h3 h4
  obtain ⟨hx, hb, hml, hown, hts, -, hL, -, -, hR0, -⟩ := id C
  obtain ⟨-, -, -, -, l5, -⟩ := LF_kept (U := s) hL h1 h2 hR0 h3 (Vm.Alike.refl s.vm)
  obtain ⟨v, by0, s0, s1, s2, ⟨cf, k, i, f, cell, g1, g2, g3, g4, g5, -⟩, -⟩ := l5 a hk
  exact W.getf hx hb hown (hts _ hw) g1 g2 g3 g4 g5 rfl rfl d (kk H locs h1 h2 h3 h4)
theorem v_lenS (C : Cx p s m args meth c G S0 y cc nL ret) {a : Nat} (hk : kd S a = 22) (d : decode cc pc = .ok (.arraylength, 1)) (kk : V p l e R s m args below meth c G S0 S Q (F0 m (pc + 1) ls (.int (nI (ln S a)) :: rest))) : V p l e R s m args below meth c G S0 S Q (F0 m pc ls (va_rf (mr S a 0) :: rest)) := by
  intro H locs h1 h2 h3 h4
  obtain ⟨hx, hb, hml, hown, hts, -, hL, -, -, hR0, -⟩ := id C
  obtain ⟨-, -, -, -, l5, -⟩ := LF_kept (U := s) hL h1 h2 hR0 h3 (Vm.Alike.refl s.vm)
  obtain ⟨v, by0, s0, s1, s2, s3, ⟨cell, c1, c2, c3, c4, c5, -⟩, -⟩ := l5 a hk
  rw [s0]
  exact W.alen hx hb c1 c2 c5 rfl rfl d (kk H locs h1 h2 h3 h4)
theorem v_ldS (C : Cx p s m args meth c G S0 y cc nL ret) {a : Nat} {i : Int32} (hk : kd S a = 22) (hi : inB i (ln S a) = true) (d : decode cc pc = .ok (.baload, 1)) (kk : ∀ x : Int32, ((x &&& 255).toUInt32 % 65536).toInt32 = mi S a i.toNatClampNeg → V p l e R s m args below meth c G S0 S Q (F0 m (pc + 1) ls (.int x :: rest))) : V p l e R s m args below meth c G S0 S Q (F0 m pc ls (.int i :: va_rf (mr S a 0) :: rest)) := by
  intro H locs h1 h2 h3 h4
  obtain ⟨hx, hb, hml, hown, hts, -, hL, -, -, hR0, -⟩ := id C
  obtain ⟨-, -, -, -, l5, -⟩ := LF_kept (U := s) hL h1 h2 hR0 h3 (Vm.Alike.refl s.vm)
  obtain ⟨v, by0, s0, s1, s2, s3, ⟨cell, c1, c2, c3, c4, c5, c6, -⟩, s5, s6⟩ := l5 a hk
  have hin := inB_iff.mp hi
  have hlt : i.toNatClampNeg < ln S a := Nat.not_le.mp fun q => hin (Or.inr q)
  rw [s0]
  exact W.bald hx hb c1 c2 c3 (fun q => hin (by rcases q with q | q
                                                · exact Or.inl q
                                                · exact Or.inr (Nat.le_trans c4 q))) (c6 _ hlt) rfl rfl d (kk _ (s6 _ hlt) H locs h1 h2 h3 h4)
theorem v_getQ (C : Cx p s m args meth c G S0 y cc nL ret) (hw : Cond.fieldLink y.cls index "jdk/internal/util/Preconditions" "SIOOBE_FORMATTER" "Ljava/util/function/BiFunction;" ∈ gw) (d : decode cc pc = .ok (.getstatic index, 3)) (kk : ∀ r : Option Nat, V p l e R s m args below meth c G S0 S Q (F0 m (pc + 3) ls (va_rf r :: rest))) : V p l e R s m args below meth c G S0 S Q (F0 m pc ls rest) := by
  intro H locs h1 h2 h3 h4
  obtain ⟨hx, hb, hml, hown, hts, -, hL, -, -, hR0, -⟩ := id C
  obtain ⟨-, -, -, -, -, l6⟩ := LF_kept (U := s) hL h1 h2 hR0 h3 (Vm.Alike.refl s.vm)
  rcases l6 with ⟨cf, kf, fi, f, a, cell, g1, g2, g3, g4, g5, g6, g7, -⟩ | ⟨t, cf, kf, fi, f, a, cell, g1, g2, g3, g4, g5, g6, g7, -⟩
  · exact W.gets hx hb hown (hts _ hw) g1 g2 g3 g4 g5 (fun q => by rw [q] at g6; cases g6) g7 rfl d (kk none H locs h1 h2 h3 h4)
  · exact W.gets hx hb hown (hts _ hw) g1 g2 g3 g4 g5 (fun q => by rw [q] at g6; cases g6) g7 rfl d (kk (some t) H locs h1 h2 h3 h4)
end Jdk
