/-! THE CLAIM OUT OF ONE WALK OF THE LAW'S BODY. Your part is whole_start (and what it stands on); all else here is the same for every law, but numbers. -/
def R_law : String := "SleepOfficeLaw"
def lw_P (b : Addr) (xs : List Int32) (args : Array Value) (s : State) : Prop := args = #[.ref b] ∧ s.IntsAt b xs ∧ xs.length ≤ 3072 ∧ (Jvm.Cond.and given_1 narrow_1).before args s = true
def lw_Q (_ : Array Value) (s : State) (o : Outcome) (t : State) : Prop := o = .returned (some (.int 1)) ∧ Framed s o t [] 600000 7302250
def lw_Z (below : List Frame) (a : Array Value) (s : State) : State → Prop := fun t => ∃ o, t.status = .running ∧ Ended t below o ∧ lw_Q a s o t
/-- the law's own end, with 1 on the stack, nothing written that was there before, its room as the claim has it -/
theorem lw_ret {p : Program} {l : Launch} {e : Env} {s : State} {m : MethodId} {below : List Frame} {meth : Method} {c : Code} {b : Nat} (hx : p.tables.exec = Jvm.exec) (hb : c.code = code) (hr : meth.sig.returnType = ret) (hlocks : meth.locks = false) {pc : Nat} {H : Heap} {ls : Array Slot} (hdg : decode code pc = .ok (.ireturn, 1)) : W p l e room_1 s m #[Value.ref b] below meth c H [] 600000 7302250 (lw_Z below #[Value.ref b] s) (F0 m pc ls [.int 1]) := by
  intro T hT X
  obtain ⟨fs, hret, hrun, hended, hW, hframe⟩ := X.leave (v := some (.int 1)) (hlocks := hlocks) (fun h => by rw [hr] at h; cases h)
  have hmeth' : T.vm.method? m = some meth := X.method'
  refine ⟨T.setFrames fs, ?_, .returned (some (.int 1)), hrun, hended, rfl, ⟨_, rfl⟩, hW, hframe⟩
  jvm_step X.here [X.here.top, hx, hb, hdg, hmeth', hr, ret, narrow_b1]
  (try refine ⟨rfl, ?_⟩); (try refine ⟨rfl, ?_⟩)
  first | (intro acts; rw [hret _ acts rfl rfl rfl]) | rw [hret _ _ rfl rfl rfl]
  exact Steps.refl _
/-- what holds at the law's entry: the machine, the code, the tables' words (any of lw_tbl by 'hts w (by decide +kernel)'), the script of L ints xs at the cell b, what the Statement gives of the start (any of its parts by flat_of_before) -/
def lw_At (p : Program) (s : State) (m : MethodId) (meth : Method) (c : Code) (b L : Nat) (xs : Nat → Int32) : Prop :=
  p.tables.exec = Jvm.exec ∧ c.code = code ∧ meth.sig.returnType = ret ∧ c.maxLocals = 4 ∧ s.vm.findClass R_law = some m.cls ∧ (∀ w ∈ lw_tbl, w.before #[Value.ref b] s = true) ∧ va_X b L xs s s.heap ∧ b < s.heap.size ∧ meth.locks = false ∧ (Jvm.Cond.and given_1 narrow_1).before #[Value.ref b] s = true
def ly (meth : Method) : MethodName := ⟨"SleepOfficeLaw", meth.name, ""⟩
def sld (L : Nat) (xs : Nat → Int32) (i : Int32) : Option Int32 := if inB i L = true then some (xs i.toNatClampNeg) else none
section LawRows
variable {p : Program} {l : Launch} {e : Env} {R : Room} {s : State} {m : MethodId} {args : Array Value} {below : List Frame} {meth : Method} {c : Code} {G : Ge} {S0 S : St} {Q : State → Prop} {y : MethodName} {cc : ByteArray} {nL : Nat} {ret0 : Option FieldType} {pc : Nat} {ls : Array Slot} {rest : List Value} {b L : Nat} {xs : Nat → Int32}
theorem v_slen (C : Cx p s m args meth c G S0 y cc nL ret0) (hX : va_X b L xs s s.heap) (hbA : b < bs G) (d : decode cc pc = .ok (.arraylength, 1)) (kk : V p l e R s m args below meth c G S0 S Q (F0 m (pc + 1) ls (.int (nI L) :: rest))) : V p l e R s m args below meth c G S0 S Q (F0 m pc ls (va_rf (some b) :: rest)) := by
  intro H locs h1 h2 h3 h4
  obtain ⟨scr, x1, x2, x3, x4, x5⟩ := hX
  exact W.alen C.1 C.2.1 (by rw [h3 b hbA]; exact x1) x2 (by rw [x4]; rfl) rfl rfl d (kk H locs h1 h2 h3 h4)
theorem v_sld (C : Cx p s m args meth c G S0 y cc nL ret0) (hX : va_X b L xs s s.heap) (hbA : b < bs G) {i v : Int32} (h : sld L xs i = some v) (d : decode cc pc = .ok (.iaload, 1)) (kk : V p l e R s m args below meth c G S0 S Q (F0 m (pc + 1) ls (.int v :: rest))) : V p l e R s m args below meth c G S0 S Q (F0 m pc ls (.int i :: va_rf (some b) :: rest)) := by
  intro H locs h1 h2 h3 h4
  obtain ⟨scr, x1, x2, x3, x4, x5⟩ := hX
  unfold sld at h
  by_cases hq : inB i L = true
  · rw [if_pos hq] at h
    cases h
    have hin := inB_iff.mp hq
    have hlt : i.toNatClampNeg < L := Nat.not_le.mp fun q => hin (Or.inr q)
    exact W.iald C.1 C.2.1 (by rw [h3 b hbA]; exact x1) x2 x3 (by rw [x4]; exact hin) (x5 _ hlt) rfl rfl d (kk H locs h1 h2 h3 h4)
  · rw [if_neg hq] at h; cases h
theorem v_law1 {x0 : Nat} (C : Cx p s m #[Value.ref x0] meth c G S0 y code nL ret) (hB : nx S0 = bs G ∧ sl S0 = 0) (d : decode code pc = .ok (.ireturn, 1)) : V p l e (rmo 2048 84000 S0) s m #[Value.ref x0] below meth c G S0 S (lw_Z below #[Value.ref x0] s) (F0 m pc ls [.int 1]) := by
  intro H locs h1 h2 h3 h4
  have hR0 := C.2.2.2.2.2.2.2.2.2.1
  have hcap : cap S0 - nx S0 = 600000 := by have := hR0.2.2.2.2.1; omega
  have hrm : rmo 2048 84000 S0 = room_1 := by
    unfold rmo
    rw [hcap, hB.2]
    rfl
  have hrr := ret_room h1 h2
  rw [hrm]
  refine va_forget (fun q hq => ?_) ?_
  · have := h4 q hq
    rw [hR0.1, hB.1]; exact this
  · refine W.widen (k := 600000) (n := 7302250) (by rw [hcap] at hrr; exact hrr.1) (by rw [hB.2] at hrr; rw [hB.2]; exact hrr.2) ?_
    exact lw_ret C.1 C.2.1 C.2.2.2.2.2.2.2.2.1 C.2.2.2.2.2.2.2.1 d
end LawRows
