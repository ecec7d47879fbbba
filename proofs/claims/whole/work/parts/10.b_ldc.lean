/-! a literal by ldc_w -/
section LdcW
variable {p : Program} {l : Launch} {e : Env} {R : Room} {s : State} {m : MethodId} {args : Array Value} {below : List Frame} {meth : Method} {c : Code} {G : Ge} {S0 S : St} {Q : State → Prop} {y : MethodName} {cc : ByteArray} {nL : Nat} {ret : Option FieldType} {pc : Nat} {ls : Array Slot} {rest : List Value} {index : Nat}
theorem v_ldcSw (C : Cx p s m args meth c G S0 y cc nL ret) {tx : String} {i : Nat} (hw : (y.cls, index, tx, i) ∈ litW) (d : decode cc pc = .ok (.ldc_w index, 3)) (kk : V p l e R s m args below meth c G S0 S Q (F0 m (pc + 3) ls (va_rf (some (lit S i)) :: rest))) : V p l e R s m args below meth c G S0 S Q (F0 m pc ls rest) := by
  intro H locs h1 h2 h3 h4
  obtain ⟨hx, hb, hml, hown, hts, ⟨-, -, -, hlit, -⟩, -⟩ := id C
  have hz := hlit _ hw
  rw [← h2.2.2.2.2.1] at hz
  intro T hT X
  obtain ⟨t, a1, b1⟩ := kk H locs h1 h2 h3 h4 T hT X
  obtain ⟨k, cf, i0, a', hk, hcf, hcp, -, hr, hev'⟩ := Cond.stringRef_spec hown hz.1
  cases hz.2.symm.trans hev'
  obtain ⟨k', hk', he⟩ := X.warmed.alike.2.2 _ _ hk
  have hr' : k'.resolved[index]? = some (some (.string (lit S i))) := by
    rcases X.warmed.entry hk hk' index with h | ⟨h, -⟩
    · rw [h]; exact hr
    · rw [hr] at h; cases h
  refine ⟨t, ?_, b1⟩
  have hd2 : decode c.code pc = .ok (.ldc_w index, 3) := by rw [hb]; exact d
  jvm_step X.here [hx, hd2, ldc_w.wp_string (e := e) (s := T) (f := F0 m pc ls rest) X.here.top hk' (by rw [he]; exact hcf) hcp hr']
  exact a1
end LdcW
