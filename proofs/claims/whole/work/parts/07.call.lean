/-! NEW THINGS, CALLS, RETURNS, CONTRACTS -/
def dfl (t : FieldType) : Value := match t with
  | .long => .long 0
  | .object _ => .null
  | .array _ => .null
  | _ => .int 0
theorem vof_mk0 (S : St) (n q len k : Nat) (t : FieldType) : vof (mk0 S n q len) (nx S) k t = dfl t := by
  cases t <;> simp [vof, mk0, mi, ml, mr, dfl, va_rf]
theorem vof_mk0o (S : St) (n q len b k : Nat) (t : FieldType) (h : b ≠ nx S) : vof (mk0 S n q len) b k t = vof S b k t := by
  cases t <;> simp [vof, mk0, mi, ml, mr, h]
theorem Rel_new {G : Ge} {S : St} {H : Heap} {cell : Cell} {n q len : Nat} (h : Rel G S H) (hq : q ≤ 20) (hl1 : nx S + 1 ≤ cap S) (hl2 : sl S + n ≤ 7302250) (hn : n = if q < 14 then nfl q else len) (c1 : cell.vm = .none) (c2 : cell.cls = cidOf G q) (c3 : cell.slots.size = n) (c4 : ∀ k, k < n → cell.slots[posOf G q k]? = some (dfl (fty q k))) : Rel G (mk0 S n q len) (H.push cell) := by
  obtain ⟨r1, r2, r3, r4, r5, r6, r7, r8, r9⟩ := h
  have n1 : nx (mk0 S n q len) = nx S + 1 := rfl
  have n2 : sl (mk0 S n q len) = sl S + n := rfl
  have k1 : kd (mk0 S n q len) (nx S) = q := by simp [kd, mk0, up1]
  have l1 : ln (mk0 S n q len) (nx S) = len := by simp [ln, mk0, up1]
  have ko : ∀ b, b ≠ nx S → kd (mk0 S n q len) b = kd S b := fun b hb => by simp [kd, mk0, up1, hb]
  have lo : ∀ b, b ≠ nx S → ln (mk0 S n q len) b = ln S b := fun b hb => by simp [ln, mk0, up1, hb]
  have z1 : szo (mk0 S n q len) (nx S) = n := by unfold szo; rw [k1, l1]; exact hn.symm
  have zo : ∀ b, b ≠ nx S → szo (mk0 S n q len) b = szo S b := fun b hb => by unfold szo; rw [ko b hb, lo b hb]
  refine ⟨by rw [Array.size_push, r1, n1], by rw [n1]; omega, by rw [n1]; exact hl1, by rw [n2]; exact hl2, r5, ?_, fun b h1 h2 => ?_, fun b hb => ?_, fun b hb => ?_⟩
  · rw [n1, n2, show nx S + 1 - bs G = (nx S - bs G) + 1 by omega]
    show _ = sumz (mk0 S n q len) (bs G) (nx S - bs G) + szo (mk0 S n q len) (bs G + (nx S - bs G))
    rw [show bs G + (nx S - bs G) = nx S by omega, z1, r6]
    rw [sumz_ext (S := S) (S' := mk0 S n q len) _ (fun a _ h2 => zo a (by omega))]
  · rw [n1] at h2
    by_cases hb : b = nx S
    · subst hb
      refine ⟨by rw [k1]; exact hq, cell, by rw [← r1, Array.getElem?_push_size], c1, by rw [k1]; exact c2, by rw [z1]; exact c3, fun k hk => ?_⟩
      rw [z1] at hk
      rw [k1, vof_mk0, c4 k hk]
    · obtain ⟨y1, c0, q1, q2, q3, q4, q5⟩ := r7 b h1 (by omega)
      refine ⟨by rw [ko b hb]; exact y1, c0, ?_, q2, by rw [ko b hb]; exact q3, by rw [zo b hb]; exact q4, fun k hk => ?_⟩
      · rw [Array.getElem?_push, if_neg (by rw [r1]; exact hb)]; exact q1
      · rw [zo b hb] at hk
        rw [ko b hb, vof_mk0o S n q len b k _ hb]
        exact q5 k hk
  · rw [n1]
    by_cases hb' : b = nx S
    · subst hb'; exact ⟨r2, by omega⟩
    · rw [ko b hb'] at hb
      have := r8 b hb
      exact ⟨this.1, by omega⟩
  · rw [n1] at hb
    rw [ko b (by omega)]
    exact r9 b (by omega)
theorem VF_warm {G : Ge} {L : Nat → Nat} {s U : State} (hW : s.WarmedH U.vm) (h : VF G L s) : VF G L U := by
  obtain ⟨a1, a2, ⟨a3, a4, a5⟩, a6, a7, a8, a9⟩ := h
  refine ⟨va_K.moved hW.alike a1, fun w hw => ?_, ⟨va_AO.moved hW.alike a3, va_AO.moved hW.alike a4, va_AO.moved hW.alike a5⟩, fun q hq => vk_R.warm hW (a6 q hq), va_Mi.moved hW.alike a7, va_Dc.moved hW.alike a8, fun r hr => va_Nw.warmC hW (a9 r hr)⟩
  have h1 := a2 w hw
  simp only [nestW, List.mem_cons, List.not_mem_nil, or_false] at hw
  rcases hw with rfl | rfl | rfl | rfl | rfl | rfl | rfl | rfl | rfl <;> exact va_Nw.warmM hW h1
theorem VF_same {G : Ge} {L : Nat → Nat} {s U : State} (hv : s.vm = U.vm) (h : VF G L s) : VF G L U := by
  obtain ⟨a1, a2, ⟨a3, a4, a5⟩, a6, a7, a8, a9⟩ := h
  have hA : s.vm.Alike U.vm := hv ▸ Vm.Alike.refl s.vm
  refine ⟨va_K.moved hA a1, fun w hw => ?_, ⟨va_AO.moved hA a3, va_AO.moved hA a4, va_AO.moved hA a5⟩, fun q hq => vk_R.same hv.symm (a6 q hq), va_Mi.moved hA a7, va_Dc.moved hA a8, fun r hr => va_Nw.same rfl hv (a9 r hr)⟩
  have h1 := a2 w hw
  simp only [nestW, List.mem_cons, List.not_mem_nil, or_false] at hw
  rcases hw with rfl | rfl | rfl | rfl | rfl | rfl | rfl | rfl | rfl <;> exact va_Nw.same rfl hv h1
theorem LF_moved {G : Ge} {S : St} {s U : State} {H : Heap} (hvm : s.vm.Alike U.vm) (h : LF G S s H) : LF G S U H := by
  obtain ⟨a1, a2, a3, a4, a5, a6⟩ := h
  refine ⟨a1.moved hvm, a2.moved hvm, a3.moved hvm, a4, fun a ha => ?_, ?_⟩
  rotate_left
  · rcases a6 with h | ⟨t, h⟩
    · exact Or.inl (h.moved hvm)
    · exact Or.inr ⟨t, h.moved hvm⟩
  obtain ⟨v, by0, s0, s1, s2, s3, s4, s5, s6⟩ := a5 a ha
  exact ⟨v, by0, s0, s1.moved hvm, s2.moved hvm, s3.moved hvm, s4.moved hvm, s5, s6⟩
theorem Pc_blind (G : Ge) (S : St) (av : List Value) : FrameBlind (PcS G S av) := by
  intro a U g mk ⟨h1, h2, h3, h4⟩
  exact ⟨h1, h2, VF_same (s := U) (U := U.calling g mk a) rfl h3, LF_moved (s := U) (U := U.calling g mk a) (Vm.Alike.refl U.vm) h4⟩
theorem gw_good : GoodIn gw gw := fun w hw => ⟨hw, good_of_word (List.mem_filter.mp hw).2⟩
section Call
variable {p : Program} {l : Launch} {e : Env} {R : Room} {s : State} {m : MethodId} {args : Array Value} {below : List Frame} {meth : Method} {c : Code} {G : Ge} {S0 S S' : St} {Q : State → Prop} {y : MethodName} {cc : ByteArray} {nL : Nat} {ret : Option FieldType} {pc : Nat} {ls : Array Slot} {rest : List Value} {fr lo : Nat}
theorem v_newO (C : Cx p s m args meth c G S0 y cc nL ret) {index ci a : Nat} {q : vw_C} (h : newO S ci = some (a, S')) (hc : ci < 14) (hq : vwCl[ci]? = some q) (hw1 : Cond.classLink y.cls index q.1 ∈ gw) (hw2 : Cond.instantiable q.1 q.2.2 ∈ gw) (hw3 : Cond.initialized q.1 ∈ gw) (hin : ∀ w ∈ u_ws q.1 q.2.1 q.2.2, w ∈ gw) (hty : ∀ j, j < q.2.2 → parseFieldDescriptor (q.2.1 j).2.2.1 = some (fty ci j)) (hd : ∀ k, k < q.2.2 → defaultValue (fty ci k) = dfl (fty ci k)) (d : decode cc pc = .ok (.new index, 3)) (kk : V p l e (rmo fr lo S0) s m args below meth c G S0 S' Q (F0 m (pc + 3) ls (va_rf (some a) :: rest))) : V p l e (rmo fr lo S0) s m args below meth c G S0 S Q (F0 m pc ls rest) := by
  intro H locs h1 h2 h3 h4
  unfold newO at h
  by_cases hl : nx S + 1 ≤ cap S ∧ sl S + nfl ci ≤ 7302250
  · rw [if_pos hl] at h
    cases h
    obtain ⟨hx, hb, hml, hown, hts, ⟨hK, -⟩, -⟩ := C
    have hnf : nfl ci = q.2.2 := nfl_of (T := q.2.1) hq
    obtain ⟨e1, e2, e3, -⟩ := id h2
    have hRn := h1.1
    have hR1 := h1.2.1
    refine W.newc hx hb hown (hts _ hw1) (hts _ hw2) (hts _ hw3) rfl d (by show _ ≤ cap S0 - nx S0; omega) (by show _ ≤ 7302250 - sl S0; omega) (fun cC kC f1 f2 f3 f4 => ?_)
    have hKn := hK.1 ci q hq
    have hcC : cC = G.1.1 ci := Option.some.inj (f1.symm.trans hKn.2.1)
    have hRel : Rel G (mk0 S (nfl ci) ci 0) (H.push { cls := cC, slots := kC.instanceTypes.map defaultValue, vm := .none }) := by
      refine Rel_new h1 (by omega) hl.1 hl.2 (by rw [if_pos hc]) rfl (by rw [cidO hc]; exact hcC) (by rw [Array.size_map, f4, hnf]) (fun k hk => ?_)
      rw [hnf] at hk
      have ht := u_born (o := H.size) (H := H.push (blank cC kC)) (fty ci) hts hin (hcC ▸ hKn) f2 (by simp) hty
      obtain ⟨cell, b1, -, -, b4⟩ := ht
      have hb1 : cell = blank cC kC := by simpa using b1.symm
      subst hb1
      rw [posO hc]
      have h8 : (blank cC kC).slots[G.1.2 ci k]? = some (defaultValue (fty ci k)) := b4 k hk
      rw [hd k hk] at h8
      exact h8
    have := kk _ locs hRel (h2.tr (Ext_mk0 S _ _ _)) (fun z hz => by rw [Array.getElem?_push, if_neg (by omega)]; exact h3 z hz) h4
    rw [show nx (mk0 S (nfl ci) ci 0) - nx S0 = nx S - nx S0 + 1 by show nx S + 1 - nx S0 = _; omega, show sl (mk0 S (nfl ci) ci 0) - sl S0 = sl S - sl S0 + q.2.2 by show sl S + nfl ci - sl S0 = _; omega] at this
    rw [hRn]
    exact this
  · rw [if_neg hl] at h; cases h
theorem v_newA (C : Cx p s m args meth c G S0 y cc nL ret) {ck a : Nat} {n : Int32} {atype : ArrayType} (h : newA S ck n = some (a, S')) (hc : ¬ ck < 14 ∧ ck ≤ 20) {t0 : Nat} (hty : (tysOf G)[t0]? = some (G.2.1 ck, newarray.typeOf atype)) (hnr : ∀ k, isRf (newarray.typeOf atype) = false ∧ fty ck k = newarray.typeOf atype ∧ defaultValue (fty ck k) = dfl (fty ck k) ∧ componentBytes (newarray.typeOf atype) ≤ 8) (hw : Cond.arrayClass (newarray.typeOf atype) ∈ gw) (d : decode cc pc = .ok (.newarray atype, 2)) (kk : V p l e (rmo fr lo S0) s m args below meth c G S0 S' Q (F0 m (pc + 2) ls (va_rf (some a) :: rest))) : V p l e (rmo fr lo S0) s m args below meth c G S0 S Q (F0 m pc ls (.int n :: rest)) := by
  intro H locs h1 h2 h3 h4
  unfold newA at h
  by_cases hl : ¬ n < 0 ∧ nx S + 1 ≤ cap S ∧ sl S + n.toNatClampNeg ≤ 7302250
  · rw [if_pos hl] at h
    cases h
    obtain ⟨hx, hb, hml, hown, hts, ⟨hK, -⟩, -⟩ := C
    obtain ⟨e1, e2, e3, -⟩ := id h2
    have hRn := h1.1
    have hR1 := h1.2.1
    refine W.newa hx hb (hts _ hw) rfl d rfl hl.1 (Nat.le_trans (Nat.mul_le_mul (show n.toNatClampNeg ≤ 7302250 by omega) (hnr 0).2.2.2) (by decide)) (by show _ ≤ cap S0 - nx S0; omega) (by show _ ≤ 7302250 - sl S0; omega) (fun cA kA comp f1 f2 f3 => ?_)
    have hA : s.vm.findClass ("[" ++ (newarray.typeOf atype).toString) = some (G.2.1 ck) := by
      have h9 := (hK.2 t0 _ hty).2
      have h8 := (hnr 0).1
      revert h9 h8
      cases newarray.typeOf atype <;> intro h9 h8 <;> first | exact h9 | (simp [isRf] at h8)
    have hcA : cA = G.2.1 ck := Option.some.inj (f1.symm.trans hA)
    have hRel : Rel G (mk0 S n.toNatClampNeg ck n.toNatClampNeg) (H.push { cls := cA, slots := Array.replicate n.toNatClampNeg (defaultValue (newarray.typeOf atype)), vm := .none }) := by
      refine Rel_new h1 hc.2 hl.2.1 hl.2.2 (by rw [if_neg hc.1]) rfl (by rw [cidA hc.1]; exact hcA) (by simp) (fun k hk => ?_)
      rw [posA hc.1, ← (hnr k).2.2.1, (hnr k).2.1]
      simp [hk]
    have := kk _ locs hRel (h2.tr (Ext_mk0 S _ _ _)) (fun z hz => by rw [Array.getElem?_push, if_neg (by omega)]; exact h3 z hz) h4
    rw [show nx (mk0 S n.toNatClampNeg ck n.toNatClampNeg) - nx S0 = nx S - nx S0 + 1 by show nx S + 1 - nx S0 = _; omega, show sl (mk0 S n.toNatClampNeg ck n.toNatClampNeg) - sl S0 = sl S - sl S0 + n.toNatClampNeg by show sl S + n.toNatClampNeg - sl S0 = _; omega] at this
    rw [hRn]
    exact this
  · rw [if_neg hl] at h; cases h
theorem v_newR (C : Cx p s m args meth c G S0 y cc nL ret) {index ck a : Nat} {n : Int32} {nm : String} (h : newA S ck n = some (a, S')) (hc : ck = 18 ∧ nm = RX6 ∨ ck = 19 ∧ nm = RX8 ∨ ck = 20 ∧ nm = "java/lang/Object") (hw : Cond.classLink y.cls index nm ∈ gw) (d : decode cc pc = .ok (.anewarray index, 3)) (kk : V p l e (rmo fr lo S0) s m args below meth c G S0 S' Q (F0 m (pc + 3) ls (va_rf (some a) :: rest))) : V p l e (rmo fr lo S0) s m args below meth c G S0 S Q (F0 m pc ls (.int n :: rest)) := by
  intro H locs h1 h2 h3 h4
  unfold newA at h
  by_cases hl : ¬ n < 0 ∧ nx S + 1 ≤ cap S ∧ sl S + n.toNatClampNeg ≤ 7302250
  · rw [if_pos hl] at h
    cases h
    obtain ⟨hx, hb, hml, hown, hts, ⟨hK, -, ⟨o1, o2, o3⟩, -⟩, -⟩ := C
    obtain ⟨e1, e2, e3, -⟩ := id h2
    have hRn := h1.1
    have hR1 := h1.2.1
    have hck : ¬ ck < 14 ∧ ck ≤ 20 := by omega
    have hover : va_AO nm s := by
      rcases hc with ⟨-, rfl⟩ | ⟨-, rfl⟩ | ⟨-, rfl⟩
      · exact o1
      · exact o2
      · exact o3
    have hty : ∃ t0 : Nat, (tysOf G)[t0]? = some (G.2.1 ck, FieldType.object nm) := by
      rcases hc with ⟨rfl, rfl⟩ | ⟨rfl, rfl⟩ | ⟨rfl, rfl⟩
      · exact ⟨4, rfl⟩
      · exact ⟨5, rfl⟩
      · exact ⟨6, rfl⟩
    obtain ⟨t0, hty⟩ := hty
    have hf : ∀ k, dfl (fty ck k) = .null := by
      rcases hc with ⟨rfl, -⟩ | ⟨rfl, -⟩ | ⟨rfl, -⟩ <;> intro k <;> rfl
    refine W.anew hx hb hown (hts _ hw) (va_AO.use hover) rfl d rfl hl.1 (by omega) (by show _ ≤ cap S0 - nx S0; omega) (by show _ ≤ 7302250 - sl S0; omega) (fun cA kA comp f1 f2 f3 f4 => ?_)
    obtain ⟨-, -, -, -, -, hA⟩ := (hK.2 t0 _ hty).2
    have hcA : cA = G.2.1 ck := Option.some.inj (f1.symm.trans hA)
    have hRel : Rel G (mk0 S n.toNatClampNeg ck n.toNatClampNeg) (H.push { cls := cA, slots := Array.replicate n.toNatClampNeg .null, vm := .none }) := by
      refine Rel_new h1 hck.2 hl.2.1 hl.2.2 (by rw [if_neg hck.1]) rfl (by rw [cidA hck.1]; exact hcA) (by simp) (fun k hk => ?_)
      rw [posA hck.1, hf k]
      simp [hk]
    have := kk _ locs hRel (h2.tr (Ext_mk0 S _ _ _)) (fun z hz => by rw [Array.getElem?_push, if_neg (by omega)]; exact h3 z hz) h4
    rw [show nx (mk0 S n.toNatClampNeg ck n.toNatClampNeg) - nx S0 = nx S - nx S0 + 1 by show nx S + 1 - nx S0 = _; omega, show sl (mk0 S n.toNatClampNeg ck n.toNatClampNeg) - sl S0 = sl S - sl S0 + n.toNatClampNeg by show sl S + n.toNatClampNeg - sl S0 = _; omega] at this
    rw [hRn]
    exact this
  · rw [if_neg hl] at h; cases h
-- returns
theorem ret_room {H : Heap} (h1 : Rel G S H) (h2 : Ext S0 S) : nx S - nx S0 ≤ cap S0 - nx S0 ∧ sl S - sl S0 ≤ 7302250 - sl S0 := by
  obtain ⟨-, -, r3, r4, -⟩ := h1
  have := h2.2.2.1
  omega
theorem v_iret (C : Cx p s m args meth c G S0 y cc nL (some .int)) {v : Int32} (d : decode cc pc = .ok (.ireturn, 1)) : V p l e R s m args below meth c G S0 S (QM below args s G S0 S (some (.int v))) (F0 m pc ls [.int v]) := by
  intro H locs h1 h2 h3 h4
  refine W.widen (ret_room h1 h2).1 (ret_room h1 h2).2 ?_
  exact W.iret C.1 C.2.1 C.2.2.2.2.2.2.2.2.1 (fun t ht hW => ⟨rfl, by rw [ht]; exact h1, h2, fun q hq => by rw [ht]; exact h3 q hq⟩) h4 d C.2.2.2.2.2.2.2.1
theorem v_zret (C : Cx p s m args meth c G S0 y cc nL (some .boolean)) {v : Int32} (hv : narrow .boolean (.int v) = .int v) (d : decode cc pc = .ok (.ireturn, 1)) : V p l e R s m args below meth c G S0 S (QM below args s G S0 S (some (.int v))) (F0 m pc ls [.int v]) := by
  intro H locs h1 h2 h3 h4
  refine W.widen (ret_room h1 h2).1 (ret_room h1 h2).2 ?_
  exact W.zret C.1 C.2.1 C.2.2.2.2.2.2.2.2.1 hv (fun t ht hW => ⟨rfl, by rw [ht]; exact h1, h2, fun q hq => by rw [ht]; exact h3 q hq⟩) h4 d C.2.2.2.2.2.2.2.1
theorem v_cret (C : Cx p s m args meth c G S0 y cc nL (some .char)) {v : Int32} (hv : narrow .char (.int v) = .int v) (d : decode cc pc = .ok (.ireturn, 1)) : V p l e R s m args below meth c G S0 S (QM below args s G S0 S (some (.int v))) (F0 m pc ls [.int v]) := by
  intro H locs h1 h2 h3 h4
  refine W.widen (ret_room h1 h2).1 (ret_room h1 h2).2 ?_
  exact W.zret C.1 C.2.1 C.2.2.2.2.2.2.2.2.1 hv (fun t ht hW => ⟨rfl, by rw [ht]; exact h1, h2, fun q hq => by rw [ht]; exact h3 q hq⟩) h4 d C.2.2.2.2.2.2.2.1
theorem v_bret (C : Cx p s m args meth c G S0 y cc nL (some .byte)) {v : Int32} (hv : narrow .byte (.int v) = .int v) (d : decode cc pc = .ok (.ireturn, 1)) : V p l e R s m args below meth c G S0 S (QM below args s G S0 S (some (.int v))) (F0 m pc ls [.int v]) := by
  intro H locs h1 h2 h3 h4
  refine W.widen (ret_room h1 h2).1 (ret_room h1 h2).2 ?_
  exact W.zret C.1 C.2.1 C.2.2.2.2.2.2.2.2.1 hv (fun t ht hW => ⟨rfl, by rw [ht]; exact h1, h2, fun q hq => by rw [ht]; exact h3 q hq⟩) h4 d C.2.2.2.2.2.2.2.1
theorem v_lret (C : Cx p s m args meth c G S0 y cc nL (some .long)) {v : Int64} (d : decode cc pc = .ok (.lreturn, 1)) : V p l e R s m args below meth c G S0 S (QM below args s G S0 S (some (.long v))) (F0 m pc ls [.long v]) := by
  intro H locs h1 h2 h3 h4
  refine W.widen (ret_room h1 h2).1 (ret_room h1 h2).2 ?_
  exact W.lret C.1 C.2.1 C.2.2.2.2.2.2.2.2.1 (fun t ht hW => ⟨rfl, by rw [ht]; exact h1, h2, fun q hq => by rw [ht]; exact h3 q hq⟩) h4 d C.2.2.2.2.2.2.2.1
theorem v_vret (C : Cx p s m args meth c G S0 y cc nL none) (d : decode cc pc = .ok (.return_, 1)) : V p l e R s m args below meth c G S0 S (QM below args s G S0 S none) (F0 m pc ls []) := by
  intro H locs h1 h2 h3 h4
  refine W.widen (ret_room h1 h2).1 (ret_room h1 h2).2 ?_
  exact W.vret C.1 C.2.1 C.2.2.2.2.2.2.2.2.1 (fun t ht hW => ⟨rfl, by rw [ht]; exact h1, h2, fun q hq => by rw [ht]; exact h3 q hq⟩) h4 d C.2.2.2.2.2.2.2.1
theorem v_aret {rt : FieldType} (C : Cx p s m args meth c G S0 y cc nL (some rt)) (hrt : (∃ n, rt = .object n) ∨ ∃ t, rt = .array t) {v : Option Nat} (d : decode cc pc = .ok (.areturn, 1)) : V p l e R s m args below meth c G S0 S (QM below args s G S0 S (some (va_rf v))) (F0 m pc ls [va_rf v]) := by
  intro H locs h1 h2 h3 h4
  refine W.widen (ret_room h1 h2).1 (ret_room h1 h2).2 ?_
  exact W.aret C.1 C.2.1 C.2.2.2.2.2.2.2.2.1 hrt (by cases v with
    | none => exact Or.inl rfl
    | some a => exact Or.inr ⟨a, rfl⟩) (fun t ht hW => ⟨rfl, by rw [ht]; exact h1, h2, fun q hq => by rw [ht]; exact h3 q hq⟩) h4 d C.2.2.2.2.2.2.2.1
-- a contract out of a walk
theorem ct_of {av : List Value} {rv : Option Value} (hy : plainFor y = true) (hlen : (lg_sl av).length ≤ nL) (body : ∀ (p : Program) (e : Env) (s : State) (m : MethodId) (args : Array Value) (below : List Frame) (meth : Method) (c : Code), Cx p s m args meth c G S y cc nL ret → ∀ ls : Array Slot, lv_has ls nL (lv_args 0 av) → V p l e (rmo fr lo S) s m args below meth c G S S (QM below args s G S S' rv) (F0 m 0 ls [])) : Ct l G y cc nL ret S av rv S' fr lo := by
  unfold Ct
  refine va_MetF (cc := cc) (maxL := nL) (ret := ret) hy rfl ?_
  intro p e s m args below meth c s₁ B hml hv
  obtain ⟨rfl, hR, hVF, hLF⟩ := hv
  have hl := lv_entry av (n := nL) hlen
  rw [lg_entry_eq]
  generalize (lg_sl av ++ List.replicate (nL - (lg_sl av).length) Slot.unset).toArray = ls at hl ⊢
  have hts := atoms_spec (ws := Cond.code y cc nL ret :: gw) B.pre
  have hC : Cx p s m av.toArray meth c G S y cc nL ret := ⟨B.exec, B.bytes, hml, findClass_of_methodNamed B.named, fun w hw => hts w (List.mem_cons_of_mem _ hw), hVF, hLF, B.notSynchronized, B.returns, hR, (name_of_methodNamed B.named B.method).1⟩
  have := body p e s m av.toArray below meth c hC ls hl s.heap [] hR (Ext.rf S) (fun _ _ => rfl) (fun _ h => by cases h)
  rw [Nat.sub_self, Nat.sub_self] at this
  exact this
/-- behind a call: the callee's end is where the caller goes on -/
theorem call_next {H : Heap} {locs : List Loc} {rv : Option Value} {g : JFrame} {A : Array Value} (C : Cx p s m args meth c G S0 y cc nL ret) (h1 : Rel G S H) (h2 : Ext S0 S) (h3 : ∀ q, q < bs G → H[q]? = s.heap[q]?) (h4 : ∀ q ∈ locs, bs G ≤ q.base)
    (run : va_Run p l e (rmo fr lo S0) s m args below meth c H locs (nx S - nx S0) (sl S - sl S0) (cap S - nx S) (7302250 - sl S) g rest (QcS G S S' rv A) (fun q => bs G ≤ q)) (kk : V p l e (rmo fr lo S0) s m args below meth c G S0 S' Q { g with pc := g.pc + 3, stack := rv.toList ++ rest }) : W p l e (rmo fr lo S0) s m args below meth c H locs (nx S - nx S0) (sl S - sl S0) Q g := by
  intro T hT X
  obtain ⟨v, st0, t, T', L, a1, X', hL, a2, a3, ⟨a4, a5, a6, a7⟩, st⟩ := run T hT X
  cases a4
  have hE : Ext S0 S' := h2.tr a6
  have hR' : Rel G S' T'.heap := by rw [a2]; exact a5
  have hs0 : s.heap.size = nx S0 := C.2.2.2.2.2.2.2.2.2.1.1
  have w1 := kk T'.heap (locs ++ L) hR' hE (fun q hq => by rw [a2, a7 q hq, a1]; exact h3 q hq) (fun q hq => by
    rcases List.mem_append.mp hq with h | h
    · exact h4 q h
    · exact hL q h)
  have w2 := W_tight (cells := nx S - nx S0 + (cap S - nx S)) (slots := sl S - sl S0 + (7302250 - sl S)) (by rw [hR'.1, hs0]; have := hE.1; omega) (Nat.le_of_eq (by
    rw [hs0]
    exact hR'.sum hE C.2.2.2.2.2.2.2.2.2.1.2.1 C.2.2.2.2.2.2.2.2.2.1.2.2.2.2.2.1)) w1
  obtain ⟨t', b1, b2⟩ := w2 T' rfl X'
  exact ⟨t', st t' b1, b2⟩
theorem call_pre {H : Heap} (C : Cx p s m args meth c G S0 y cc nL ret) (h1 : Rel G S H) (h2 : Ext S0 S) (h3 : ∀ q, q < bs G → H[q]? = s.heap[q]?) (av : List Value) : PreS s H (PcS G S av) av := by
  refine ⟨Pc_blind G S av, fun U hU hW => ⟨rfl, by rw [hU]; exact h1, ?_, ?_⟩⟩
  · rw [h2.2.2.2.2.1]; exact VF_warm hW C.2.2.2.2.2.1
  · rw [hU]; exact LF_kept C.2.2.2.2.2.2.1 h1 h2 C.2.2.2.2.2.2.2.2.2.1 h3 hW.alike
theorem call_room {H : Heap} (h1 : Rel G S H) (h2 : Ext S0 S) : nx S - nx S0 + (cap S - nx S) ≤ cap S0 - nx S0 ∧ sl S - sl S0 + (7302250 - sl S) ≤ 7302250 - sl S0 := by
  obtain ⟨-, -, r3, r4, -⟩ := h1
  have h := h2.2.2.1
  have h' := h2.1
  have h'' := h2.2.1
  omega
theorem gw_cons {y' : MethodName} {cc' : ByteArray} {nL' : Nat} {ret' : Option FieldType} (hw : Cond.code y' cc' nL' ret' ∈ gw) : GoodIn gw (Cond.code y' cc' nL' ret' :: gw) := fun w h => by
  rcases List.mem_cons.mp h with rfl | h
  · exact ⟨hw, good_of_word (List.mem_filter.mp hw).2⟩
  · exact ⟨h, good_of_word (List.mem_filter.mp h).2⟩
variable {y' : MethodName} {cc' : ByteArray} {nL' : Nat} {ret' : Option FieldType} {av : List Value} {rv : Option Value} {fr' lo' index : Nat} {stk stk2 : List Value}
/-- what a call's words say -/
def CW (y' : MethodName) (cc' : ByteArray) (nL' : Nat) (ret' : Option FieldType) : Prop := Cond.code y' cc' nL' ret' ∈ gw ∧ Cond.initialized y'.cls ∈ gw ∧ y'.cls ≠ "java/lang/invoke/MethodHandle" ∧ y'.cls ≠ "java/lang/invoke/VarHandle"
theorem v_callS (C : Cx p s m args meth c G S0 y cc nL ret) (K : Ct l G y' cc' nL' ret' S av rv S' fr' lo') (hw : CW y' cc' nL' ret') (hl : Cond.methodLink y.cls index y' ∈ gw) (hs : Cond.static y' ∈ gw) (hn : (parseMethodDescriptor y'.desc).map (fun d => d.parameters.length) = some av.length) (hr : fr' + 1 ≤ fr ∧ 8 + (nL' + 11) + lo' ≤ lo) (hst : stk = av.reverse ++ rest) (hst2 : rv.toList ++ rest = stk2) (hsum : (rest.map fun v => v.category).sum ≤ 8) {lv : List (Nat × Value)} (hls : lv_has ls nL lv) (d : decode cc pc = .ok (.invokestatic index, 3)) (kk : V p l e (rmo fr lo S0) s m args below meth c G S0 S' Q (F0 m (pc + 3) ls stk2)) : V p l e (rmo fr lo S0) s m args below meth c G S0 S Q (F0 m pc ls stk) := by
  intro H locs h1 h2 h3 h4
  obtain ⟨hw1, hw2, hw3, hw4⟩ := hw
  obtain ⟨hx, hb, hml, hown, hts, -⟩ := id C
  subst hst
  subst hst2
  exact call_next C h1 h2 h3 h4 (va_runS (As := av) (rest := rest) ⟨hx, hb, hml, hown, hts⟩ K ⟨callB_of av.length hts (gw_cons hw1) rfl rfl rfl (hts _ hw2) (hts _ hl) ⟨hw3, hw4, hn⟩ hr, hts _ hs⟩ (call_pre C h1 h2 h3 av) rfl rfl hls.1 rfl (lv_room hsum) d (call_room h1 h2)) kk
theorem v_callSN (C : Cx p s m args meth c G S0 y cc nL ret) (host : String) (K : Ct l G y' cc' nL' ret' S av rv S' fr' lo') (hw : CW y' cc' nL' ret') (hl : Cond.methodLinkNest y.cls index y' host ∈ nestW) (hs : Cond.static y' ∈ gw) (hn : (parseMethodDescriptor y'.desc).map (fun d => d.parameters.length) = some av.length) (hr : fr' + 1 ≤ fr ∧ 8 + (nL' + 11) + lo' ≤ lo) (hst : stk = av.reverse ++ rest) (hst2 : rv.toList ++ rest = stk2) (hsum : (rest.map fun v => v.category).sum ≤ 8) {lv : List (Nat × Value)} (hls : lv_has ls nL lv) (d : decode cc pc = .ok (.invokestatic index, 3)) (kk : V p l e (rmo fr lo S0) s m args below meth c G S0 S' Q (F0 m (pc + 3) ls stk2)) : V p l e (rmo fr lo S0) s m args below meth c G S0 S Q (F0 m pc ls stk) := by
  intro H locs h1 h2 h3 h4
  obtain ⟨hw1, hw2, hw3, hw4⟩ := hw
  obtain ⟨hx, hb, hml, hown, hts, ⟨-, hnw, -⟩, -⟩ := id C
  subst hst
  subst hst2
  exact call_next C h1 h2 h3 h4 (va_runSN (host := host) (As := av) (rest := rest) ⟨hx, hb, hml, hown, hts⟩ K ⟨va_cnB av.length hts (gw_cons hw1) rfl rfl rfl (hnw _ hl) (hts _ hw2) ⟨hw3, hw4, hn⟩ hr, hts _ hs, trivial⟩ (call_pre C h1 h2 h3 av) rfl rfl hls.1 rfl (lv_room hsum) d (call_room h1 h2)) kk
theorem v_callI (C : Cx p s m args meth c G S0 y cc nL ret) {b : Nat} (K : Ct l G y' cc' nL' none S (va_rf (some b) :: av) rv S' fr' lo') (hw : CW y' cc' nL' none) (hl : Cond.methodLink y.cls index y' ∈ gw) (hi : Cond.instanceMethod y' ∈ gw) (hnm : y'.name = "<init>") (hn : (parseMethodDescriptor y'.desc).map (fun d => d.parameters.length) = some av.length) (hr : fr' + 1 ≤ fr ∧ 8 + (nL' + 11) + lo' ≤ lo) (hst : stk = av.reverse ++ va_rf (some b) :: rest) (hst2 : rv.toList ++ rest = stk2) (hsum : (rest.map fun v => v.category).sum ≤ 8) {lv : List (Nat × Value)} (hls : lv_has ls nL lv) (d : decode cc pc = .ok (.invokespecial index, 3)) (kk : V p l e (rmo fr lo S0) s m args below meth c G S0 S' Q (F0 m (pc + 3) ls stk2)) : V p l e (rmo fr lo S0) s m args below meth c G S0 S Q (F0 m pc ls stk) := by
  intro H locs h1 h2 h3 h4
  obtain ⟨hw1, hw2, hw3, hw4⟩ := hw
  obtain ⟨hx, hb, hml, hown, hts, -⟩ := id C
  subst hst
  subst hst2
  exact call_next C h1 h2 h3 h4 (va_runI (b := b) (As := av) (rest := rest) ⟨hx, hb, hml, hown, hts⟩ K ⟨callB_of av.length hts (gw_cons hw1) rfl rfl rfl (hts _ hw2) (hts _ hl) ⟨hw3, hw4, hn⟩ hr, hnm, hts _ hi⟩ (call_pre C h1 h2 h3 (va_rf (some b) :: av)) rfl rfl hls.1 rfl (lv_room hsum) d (call_room h1 h2)) kk
theorem v_callIN (C : Cx p s m args meth c G S0 y cc nL ret) (host : String) {b : Nat} (K : Ct l G y' cc' nL' none S (va_rf (some b) :: av) rv S' fr' lo') (hw : CW y' cc' nL' none) (hl : Cond.methodLinkNest y.cls index y' host ∈ nestW) (hi : Cond.instanceMethod y' ∈ gw) (hnm : y'.name = "<init>") (hn : (parseMethodDescriptor y'.desc).map (fun d => d.parameters.length) = some av.length) (hr : fr' + 1 ≤ fr ∧ 8 + (nL' + 11) + lo' ≤ lo) (hst : stk = av.reverse ++ va_rf (some b) :: rest) (hst2 : rv.toList ++ rest = stk2) (hsum : (rest.map fun v => v.category).sum ≤ 8) {lv : List (Nat × Value)} (hls : lv_has ls nL lv) (d : decode cc pc = .ok (.invokespecial index, 3)) (kk : V p l e (rmo fr lo S0) s m args below meth c G S0 S' Q (F0 m (pc + 3) ls stk2)) : V p l e (rmo fr lo S0) s m args below meth c G S0 S Q (F0 m pc ls stk) := by
  intro H locs h1 h2 h3 h4
  obtain ⟨hw1, hw2, hw3, hw4⟩ := hw
  obtain ⟨hx, hb, hml, hown, hts, ⟨-, hnw, -⟩, -⟩ := id C
  subst hst
  subst hst2
  exact call_next C h1 h2 h3 h4 (va_runIN (host := host) (b := b) (As := av) (rest := rest) ⟨hx, hb, hml, hown, hts⟩ K ⟨va_cnB av.length hts (gw_cons hw1) rfl rfl rfl (hnw _ hl) (hts _ hw2) ⟨hw3, hw4, hn⟩ hr, hnm, hts _ hi⟩ (call_pre C h1 h2 h3 (va_rf (some b) :: av)) rfl rfl hls.1 rfl (lv_room hsum) d (call_room h1 h2)) kk
/-- a method of an object of a class of vwCl -/
theorem v_callV (C : Cx p s m args meth c G S0 y cc nL ret) {b ci : Nat} {q : vw_C} (hk : kd S b = ci) (hc : ci < 14) (hq : vwCl[ci]? = some q) (hcls : y'.cls = q.1) (K : Ct l G y' cc' nL' ret' S (va_rf (some b) :: av) rv S' fr' lo') (hw : CW y' cc' nL' ret') (hl : Cond.methodLink y.cls index y' ∈ gw) (hi : Cond.instanceMethod y' ∈ gw) (hse : Cond.selects q.1 y' y' ∈ gw) (hn : (parseMethodDescriptor y'.desc).map (fun d => d.parameters.length) = some av.length) (hr : fr' + 1 ≤ fr ∧ 8 + (nL' + 11) + lo' ≤ lo) (hst : stk = av.reverse ++ va_rf (some b) :: rest) (hst2 : rv.toList ++ rest = stk2) (hsum : (rest.map fun v => v.category).sum ≤ 8) {lv : List (Nat × Value)} (hls : lv_has ls nL lv) (d : decode cc pc = .ok (.invokevirtual index, 3)) (kk : V p l e (rmo fr lo S0) s m args below meth c G S0 S' Q (F0 m (pc + 3) ls stk2)) : V p l e (rmo fr lo S0) s m args below meth c G S0 S Q (F0 m pc ls stk) := by
  intro H locs h1 h2 h3 h4
  obtain ⟨hw1, hw2, hw3, hw4⟩ := hw
  obtain ⟨hx, hb, hml, hown, hts, ⟨hK, -⟩, -⟩ := id C
  subst hst
  subst hst2
  have hp := call_pre C h1 h2 h3 (va_rf (some b) :: av)
  exact call_next C h1 h2 h3 h4 (va_runV (C := q.1) (b := b) (As := av) (rest := rest) ⟨hx, hb, hml, hown, hts⟩ K ⟨callB_of av.length hts (gw_cons hw1) rfl rfl rfl (hts _ hw2) (hts _ hl) ⟨hw3, hw4, hn⟩ hr, hts _ hi, hts _ hse⟩ ⟨hp.1, obj_cell h1 hK hk hc hq, hp.2⟩ rfl rfl hls.1 rfl (lv_room hsum) d (call_room h1 h2)) kk
/-- a method of a literal -/
theorem v_callT (C : Cx p s m args meth c G S0 y cc nL ret) {b : Nat} (hk : kd S b = 22) (hcls : y'.cls = "java/lang/String") (K : Ct l G y' cc' nL' ret' S (va_rf (some b) :: av) rv S' fr' lo') (hw : CW y' cc' nL' ret') (hl : Cond.methodLink y.cls index y' ∈ gw) (hi : Cond.instanceMethod y' ∈ gw) (hse : Cond.selects "java/lang/String" y' y' ∈ gw) (hn : (parseMethodDescriptor y'.desc).map (fun d => d.parameters.length) = some av.length) (hr : fr' + 1 ≤ fr ∧ 8 + (nL' + 11) + lo' ≤ lo) (hst : stk = av.reverse ++ va_rf (some b) :: rest) (hst2 : rv.toList ++ rest = stk2) (hsum : (rest.map fun v => v.category).sum ≤ 8) {lv : List (Nat × Value)} (hls : lv_has ls nL lv) (d : decode cc pc = .ok (.invokevirtual index, 3)) (kk : V p l e (rmo fr lo S0) s m args below meth c G S0 S' Q (F0 m (pc + 3) ls stk2)) : V p l e (rmo fr lo S0) s m args below meth c G S0 S Q (F0 m pc ls stk) := by
  intro H locs h1 h2 h3 h4
  obtain ⟨hw1, hw2, hw3, hw4⟩ := hw
  obtain ⟨hx, hb, hml, hown, hts, -, hL, -, -, hR0, -⟩ := id C
  subst hst
  subst hst2
  have hp := call_pre C h1 h2 h3 (va_rf (some b) :: av)
  obtain ⟨-, -, -, -, l5, -⟩ := LF_kept (U := s) hL h1 h2 hR0 h3 (Vm.Alike.refl s.vm)
  obtain ⟨v, by0, -, ⟨cell, s1, s2, s3, -⟩, -⟩ := l5 b hk
  exact call_next C h1 h2 h3 h4 (va_runV (C := "java/lang/String") (b := b) (As := av) (rest := rest) ⟨hx, hb, hml, hown, hts⟩ K ⟨callB_of av.length hts (gw_cons hw1) rfl rfl rfl (hts _ hw2) (hts _ hl) ⟨hw3, hw4, hn⟩ hr, hts _ hi, hts _ hse⟩ ⟨hp.1, ⟨cell, s1, s2, s3⟩, hp.2⟩ rfl rfl hls.1 rfl (lv_room hsum) d (call_room h1 h2)) kk
theorem v_objInit (C : Cx p s m args meth c G S0 y cc nL ret) {b : Nat} (hl : Cond.methodLink y.cls index objectInit ∈ gw) (hi : Cond.instanceMethod objectInit ∈ gw) (hcode : Cond.code objectInit ⟨#[0xb1]⟩ 1 none ∈ gw) (hr : 1 ≤ fr ∧ 20 ≤ lo) (hsum : (rest.map fun v => v.category).sum ≤ 8) {lv : List (Nat × Value)} (hls : lv_has ls nL lv) (d : decode cc pc = .ok (.invokespecial index, 3)) (kk : V p l e (rmo fr lo S0) s m args below meth c G S0 S Q (F0 m (pc + 3) ls rest)) : V p l e (rmo fr lo S0) s m args below meth c G S0 S Q (F0 m pc ls (va_rf (some b) :: rest)) := by
  intro H locs h1 h2 h3 h4
  obtain ⟨hx, hb, hml, hown, hts, -⟩ := id C
  exact W.objInit hx hb hown (hts _ hl) (hts _ hi) (hts _ hcode) rfl (by rw [hml]; exact hls.1) (a := b) (rest := rest) rfl d hr.1 (by have := lv_room (m := m) (pc := pc) (ls := ls) (rest := rest) (st := rest) hsum; show 2 * (F0 m pc ls (va_rf (some b) :: rest)).monitorRoom + _ + 12 ≤ lo; have e9 : (F0 m pc ls (va_rf (some b) :: rest)).monitorRoom = (F0 m pc ls rest).monitorRoom := rfl; omega) (kk H locs h1 h2 h3 h4)
theorem v_ldcS (C : Cx p s m args meth c G S0 y cc nL ret) {tx : String} {i : Nat} (hw : (y.cls, index, tx, i) ∈ litW) (d : decode cc pc = .ok (.ldc index, 2)) (kk : V p l e R s m args below meth c G S0 S Q (F0 m (pc + 2) ls (va_rf (some (lit S i)) :: rest))) : V p l e R s m args below meth c G S0 S Q (F0 m pc ls rest) := by
  intro H locs h1 h2 h3 h4
  obtain ⟨hx, hb, hml, hown, hts, ⟨-, -, -, hlit, -⟩, -⟩ := id C
  have hz := hlit _ hw
  rw [← h2.2.2.2.2.1] at hz
  exact va_ldcS hx hb hown hz d (kk H locs h1 h2 h3 h4)
theorem v_getE (C : Cx p s m args meth c G S0 y cc nL ret) (hl : Cond.fieldLink y.cls index "java/util/ArrayList" "DEFAULTCAPACITY_EMPTY_ELEMENTDATA" "[Ljava/lang/Object;" ∈ gw) (d : decode cc pc = .ok (.getstatic index, 3)) (kk : V p l e R s m args below meth c G S0 S Q (F0 m (pc + 3) ls (va_rf (some (emp S)) :: rest))) : V p l e R s m args below meth c G S0 S Q (F0 m pc ls rest) := by
  intro H locs h1 h2 h3 h4
  obtain ⟨hx, hb, hml, hown, hts, -, hL, -, -, hR0, -⟩ := id C
  obtain ⟨⟨cf, kf, fi, f, a, cell, g1, g2, g3, g4, g5, g6, g7, -⟩, -⟩ := LF_kept (U := s) hL h1 h2 hR0 h3 (Vm.Alike.refl s.vm)
  exact W.gets hx hb hown (hts _ hl) g1 g2 g3 g4 g5 (fun q => by rw [q] at g6; cases g6) g7 rfl d (kk H locs h1 h2 h3 h4)
theorem v_getZ (C : Cx p s m args meth c G S0 y cc nL ret) (hl : Cond.fieldLink y.cls index "java/lang/String" "COMPACT_STRINGS" "Z" ∈ gw) (d : decode cc pc = .ok (.getstatic index, 3)) (kk : V p l e R s m args below meth c G S0 S Q (F0 m (pc + 3) ls (.int 1 :: rest))) : V p l e R s m args below meth c G S0 S Q (F0 m pc ls rest) := by
  intro H locs h1 h2 h3 h4
  obtain ⟨hx, hb, hml, hown, hts, -, hL, -, -, hR0, -⟩ := id C
  obtain ⟨-, ⟨cf, kf, fi, f, a, cell, g1, g2, g3, g4, g5, g6, g7, -⟩, -⟩ := LF_kept (U := s) hL h1 h2 hR0 h3 (Vm.Alike.refl s.vm)
  exact W.gets hx hb hown (hts _ hl) g1 g2 g3 g4 g5 (fun q => by rw [q] at g6; cases g6) g7 rfl d (kk H locs h1 h2 h3 h4)
end Call
