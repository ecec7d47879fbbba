/-! READS, WRITES AND NEW THINGS over the pure state -/
/-- a field as an instruction of 'own' names it: class number ci, place k -/
def FL (own : String) (index ci k fin : Nat) : Prop := ∃ (Cn : String) (T : u_T) (N : Nat) (ref : String), ci < 14 ∧ vwCl[ci]? = some (Cn, T, N) ∧ k < N ∧ (∀ w ∈ u_ws Cn T N, w ∈ gw) ∧ Cond.fieldLink own index ref (T k).2.1 (T k).2.2.1 ∈ gw ∧ (ref = (T k).1 ∨ Cond.sameField ref (T k).1 (T k).2.1 (T k).2.2.1 ∈ gw) ∧ (∀ j, j < N → parseFieldDescriptor (T j).2.2.1 = some (fty ci j)) ∧ (∀ a, a < N → ∀ b, b < N → a ≠ b → (T a).2.1 ≠ (T b).2.1) ∧ (fin = 0 → (T k).2.2.2 = false) ∧ (fin = 1 → (T k).2.2.2 = true ∧ (T k).1 = own)
def isRf : FieldType → Bool
  | .object _ => true
  | .array _ => true
  | _ => false
theorem nf_i (x : Int32) : narrow .int (.int x) = .int x ∧ fits .int (.int x) = true := ⟨rfl, rfl⟩
theorem nf_l (x : Int64) : narrow .long (.long x) = .long x ∧ fits .long (.long x) = true := ⟨rfl, rfl⟩
theorem nf_r {t : FieldType} (ht : isRf t = true) (x : Option Nat) : narrow t (va_rf x) = va_rf x ∧ fits t (va_rf x) = true := by
  cases t <;> first | (simp [isRf] at ht; done) | (cases x <;> exact ⟨rfl, rfl⟩)
theorem vof_r {S : St} {a k : Nat} {t : FieldType} (ht : isRf t = true) : vof S a k t = va_rf (mr S a k) := by
  cases t <;> first | (simp [isRf] at ht; done) | rfl
theorem setSlot_sl (cell : Cell) (i : Nat) (v : Value) : (cell.setSlot i v).slots = cell.slots.setIfInBounds i v := rfl
theorem Rel_upd {G : Ge} {S S' : St} {H H' : Heap} {a i : Nat} {v : Value} {cell : Cell} (h : Rel G S H) (hS1 : S'.1 = S.1) (hS2 : S'.2.1 = S.2.1) (hv : ∀ b k t, b ≠ a → vof S' b k t = vof S b k t) (hc : H[a]? = some cell) (e1 : H'[a]? = some (cell.setSlot i v)) (e2 : H'.size = H.size) (e3 : ∀ q, q ≠ a → H'[q]? = H[q]?)
    (hi : i < cell.slots.size) (hs : ∀ k, k < szo S a → (posOf G (kd S a) k = i ∧ v = vof S' a k (fty (kd S a) k)) ∨ (posOf G (kd S a) k ≠ i ∧ vof S' a k (fty (kd S a) k) = vof S a k (fty (kd S a) k))) : Rel G S' H' := by
  obtain ⟨r1, r2, r3, r4, r5, r6, r7, r8, r9⟩ := h
  have n1 : nx S' = nx S := by unfold nx; rw [hS1]
  have n2 : sl S' = sl S := by unfold sl; rw [hS1]
  have n3 : cap S' = cap S := by unfold cap; rw [hS1]
  have n4 : kd S' = kd S := by unfold kd; rw [hS2]
  have n5 : ln S' = ln S := by unfold ln; rw [hS2]
  have n6 : ∀ b, szo S' b = szo S b := fun b => by unfold szo; rw [n4, n5]
  refine ⟨by rw [e2, r1, n1], by rw [n1]; exact r2, by rw [n1, n3]; exact r3, by rw [n2]; exact r4, by rw [n3]; exact r5, ?_, fun b h1 h2 => ?_, fun b hb => ?_, fun b hb => ?_⟩
  · rw [n2, n1, r6]
    exact (sumz_ext _ (fun b _ _ => n6 b)).symm
  · rw [n1] at h2
    obtain ⟨k1, c0, q1, q2, q3, q4, q5⟩ := r7 b h1 h2
    refine ⟨by rw [n4]; exact k1, ?_⟩
    by_cases hb : b = a
    · subst hb
      rw [hc] at q1
      cases q1
      refine ⟨_, e1, q2, by rw [n4]; exact q3, ?_, fun k hk => ?_⟩
      · rw [setSlot_sl, Array.size_setIfInBounds, n6]; exact q4
      · rw [n6] at hk
        rw [n4, setSlot_sl, Array.getElem?_setIfInBounds]
        rcases hs k hk with ⟨z1, z2⟩ | ⟨z1, z2⟩
        · rw [z1, if_pos rfl, if_pos hi, z2]
        · rw [if_neg (fun q => z1 q.symm), q5 k hk, z2]
    · refine ⟨c0, by rw [e3 b hb]; exact q1, q2, by rw [n4]; exact q3, by rw [n6]; exact q4, fun k hk => ?_⟩
      rw [n6] at hk
      rw [n4, q5 k hk, hv b k _ hb]
  · rw [n4] at hb
    rw [n1]
    exact r8 b hb
  · rw [n4]
    rw [n1] at hb
    exact r9 b hb
theorem vof_setI (S : St) (a k : Nat) (v : Int32) (b j : Nat) (t : FieldType) (h : ¬ (b = a ∧ j = k)) : vof (setI S a k v) b j t = vof S b j t := by
  cases t <;> simp [vof, setI, mi, ml, mr, up2, h]
theorem vof_setL (S : St) (a k : Nat) (v : Int64) (b j : Nat) (t : FieldType) (h : ¬ (b = a ∧ j = k)) : vof (setL S a k v) b j t = vof S b j t := by
  cases t <;> simp [vof, setL, mi, ml, mr, up2, h]
theorem vof_setR (S : St) (a k : Nat) (v : Option Nat) (b j : Nat) (t : FieldType) (h : ¬ (b = a ∧ j = k)) : vof (setR S a k v) b j t = vof S b j t := by
  cases t <;> simp [vof, setR, mi, ml, mr, up2, h]
theorem mi_setI (S : St) (a k : Nat) (v : Int32) : mi (setI S a k v) a k = v := by simp [mi, setI, up2]
theorem ml_setL (S : St) (a k : Nat) (v : Int64) : ml (setL S a k v) a k = v := by simp [ml, setL, up2]
theorem mr_setR (S : St) (a k : Nat) (v : Option Nat) : mr (setR S a k v) a k = v := by simp [mr, setR, up2]
theorem posO {G : Ge} {ci k : Nat} (h : ci < 14) : posOf G ci k = G.1.2 ci k := if_pos h
theorem posA {G : Ge} {ci k : Nat} (h : ¬ ci < 14) : posOf G ci k = k := if_neg h
theorem cidO {G : Ge} {ci : Nat} (h : ci < 14) : cidOf G ci = G.1.1 ci := if_pos h
theorem cidA {G : Ge} {ci : Nat} (h : ¬ ci < 14) : cidOf G ci = G.2.1 ci := if_neg h
theorem szO {S : St} {a : Nat} (h : kd S a < 14) : szo S a = nfl (kd S a) := if_pos h
theorem szA {S : St} {a : Nat} (h : ¬ kd S a < 14) : szo S a = ln S a := if_neg h
theorem nfl_of {ci N : Nat} {Cn : String} {T : u_T} (h : vwCl[ci]? = some (Cn, T, N)) : nfl ci = N := by unfold nfl; rw [h]
section Heap
variable {p : Program} {l : Launch} {e : Env} {R : Room} {s : State} {m : MethodId} {args : Array Value} {below : List Frame} {meth : Method} {c : Code} {G : Ge} {S0 S S' : St} {Q : State → Prop} {y : MethodName} {cc : ByteArray} {nL : Nat} {ret : Option FieldType} {pc : Nat} {ls : Array Slot} {rest : List Value}
theorem v_getf (C : Cx p s m args meth c G S0 y cc nL ret) {index ci k a fin : Nat} (F : FL y.cls index ci k fin) (hk0 : kd S a = ci) {v : Value} (hv : vof S a k (fty ci k) = v) (d : decode cc pc = .ok (.getfield index, 3)) (kk : V p l e R s m args below meth c G S0 S Q (F0 m (pc + 3) ls (v :: rest))) : V p l e R s m args below meth c G S0 S Q (F0 m pc ls (.ref a :: rest)) := by
  intro H locs h1 h2 h3 h4
  obtain ⟨Cn, T, N, ref, hci, hc, hkN, hin, hlink, hsame, -⟩ := F
  obtain ⟨hx, hb, hml, hown, hts, ⟨hK, -⟩, -⟩ := C
  obtain ⟨-, -, -, -, -, -, r7, r8, r9⟩ := id h1
  obtain ⟨z1, z2⟩ := r8 a (by omega)
  obtain ⟨-, cell, q1, q2, q3, q4, q5⟩ := r7 a z1 z2
  obtain ⟨hS, hfc, kC, hkC, hkind⟩ := hK.1 ci _ hc
  obtain ⟨cf, kf, fi, f, hi, hsl⟩ := hS k hkN
  have hsame' : s.fieldFound? ref (T k).2.1 (T k).2.2.1 = some (cf, kf, fi, f) := by
    rcases hsame with h | h
    · rw [h]; exact hi
    · exact u_same (hts _ h) _ hi
  refine W.getf hx hb hown (hts _ hlink) hsame' (u_facts hfc hkC (u_lays hts hin hkN) hi).1 q1 (by rw [q2]; exact fun h => by cases h) (v := v) ?_ rfl rfl d (kk H locs h1 h2 h3 h4)
  have h9 := q5 k (by rw [szO (by omega), hk0, nfl_of hc]; exact hkN)
  rw [hk0, posO hci] at h9
  rw [hsl, h9, hv]
theorem v_putf (C : Cx p s m args meth c G S0 y cc nL ret) {index ci k a fin : Nat} (F : FL y.cls index ci k fin) (hin2 : fin = 0 ∨ fin = 1 ∧ y.name = "<init>") (hk0 : kd S a = ci) {v : Value} (hn : narrow (fty ci k) v = v ∧ fits (fty ci k) v = true) (hS1 : S'.1 = S.1) (hS2 : S'.2.1 = S.2.1) (hvo : ∀ b j t, ¬ (b = a ∧ j = k) → vof S' b j t = vof S b j t) (hv : vof S' a k (fty ci k) = v) (hE : Ext S S') (d : decode cc pc = .ok (.putfield index, 3)) (kk : V p l e R s m args below meth c G S0 S' Q (F0 m (pc + 3) ls rest)) : V p l e R s m args below meth c G S0 S Q (F0 m pc ls (v :: .ref a :: rest)) := by
  intro H locs h1 h2 h3 h4
  obtain ⟨Cn, T, N, ref, hci, hc, hkN, hin, hlink, hsame, hty, hnm, hfin, hdecl⟩ := F
  obtain ⟨hx, hb, hml, hown, hts, ⟨hK, -⟩, -, -, -, -, hname⟩ := C
  obtain ⟨-, -, -, -, -, -, r7, r8, r9⟩ := id h1
  obtain ⟨z1, z2⟩ := r8 a (by omega)
  obtain ⟨-, cell, q1, q2, q3, q4, q5⟩ := r7 a z1 z2
  have hap := va_apart (own := y.cls) hts hin (fty ci) hty hnm hK hc
  obtain ⟨hS, hfc, kC, hkC, hkind⟩ := hK.1 ci _ hc
  obtain ⟨cf, kf, fi, f, hi, hsl⟩ := hS k hkN
  have hsame' : s.fieldFound? ref (T k).2.1 (T k).2.2.1 = some (cf, kf, fi, f) := by
    rcases hsame with h | h
    · rw [h]; exact hi
    · exact u_same (hts _ h) _ hi
  have hlay := hts _ (hin _ (u_in_lay hkN))
  have hst := (u_facts hfc hkC (u_lays hts hin hkN) hi).1
  have hsz : szo S a = N := by rw [szO (by omega), hk0, nfl_of hc]
  have q3' : cell.cls = G.1.1 ci := by rw [q3, hk0, cidO hci]
  have hlt : f.slot < cell.slots.size := by
    have h9 := q5 k (by rw [hsz]; exact hkN)
    rw [hk0, posO hci] at h9
    rw [hsl]; exact k2_hasslot h9
  have fin0 : ∀ H' : Heap, H'[a]? = some (cell.setSlot f.slot v) → H'.size = H.size → (∀ q, q ≠ a → H'[q]? = H[q]?) → W p l e R s m args below meth c H' (locs ++ [⟨a, f.slot⟩]) (nx S - nx S0) (sl S - sl S0) Q (F0 m (pc + 3) ls rest) := by
    intro H' e1 e2 e3
    have hR : Rel G S' H' := by
      refine Rel_upd h1 hS1 hS2 (fun b j t hb => hvo b j t (fun q => hb q.1)) q1 e1 e2 e3 hlt (fun j hj => ?_)
      rw [hsz] at hj
      rw [hk0, posO hci, hsl]
      by_cases hjk : j = k
      · subst hjk; exact Or.inl ⟨rfl, hv.symm⟩
      · exact Or.inr ⟨hap j k hj hkN hjk, hvo a j _ (fun q => hjk q.2)⟩
    have n1 : nx S' = nx S := by unfold nx; rw [hS1]
    have n2 : sl S' = sl S := by unfold sl; rw [hS1]
    rw [← n1, ← n2]
    refine kk H' _ hR (h2.tr hE) (fun q hq => ?_) (fun q hq => ?_)
    · rw [e3 q (fun h => by omega)]; exact h3 q hq
    · rcases List.mem_append.mp hq with h | h
      · exact h4 q h
      · rw [List.mem_singleton.mp h]; exact z1
  rcases hin2 with hf0 | ⟨hf1, hin2⟩
  ·
    unfold u_lay at hlay
    rw [if_neg (by rw [hfin hf0]; decide)] at hlay
    have h6 := u_store hfc hkC hkind hlay hi (hty k hkN) hn.1 hn.2
    exact W.putK hx hb (f := f) ⟨hown, hts _ hlink, ⟨_, _, _, hsame'⟩, hst⟩ (by rw [q3']; exact h6) q1 q2 hlt rfl rfl d fin0
  ·
    unfold u_lay at hlay
    rw [if_pos (hdecl hf1).1] at hlay
    have hcf : m.cls = cf := by
      obtain ⟨_, _, c', _, _, _, -, -, hf', -, -, -, hown2, -⟩ := Cond.laysFinal_spec hlay
      have e1 : c' = cf := by have := hi.symm.trans hf'; simp at this; exact this.1.symm
      rw [(hdecl hf1).2] at hown2
      rw [← e1]; exact Option.some.inj (hown.symm.trans hown2)
    have h6 := u_fits hfc hkC hkind (Or.inr hlay) hi (hty k hkN) hn.1 hn.2
    exact W.putFinK hx hb hown (hts _ hlink) hsame' hst hcf (hname.trans hin2) (by rw [q3']; exact h6) q1 q2 hlt rfl rfl d fin0
theorem v_getI (C : Cx p s m args meth c G S0 y cc nL ret) {index ci k fin : Nat} (F : FL y.cls index ci k fin) (ht : fty ci k = .int) {r : Option Nat} {v : Int32} (h : getI S r ci k = some v) (d : decode cc pc = .ok (.getfield index, 3)) (kk : V p l e R s m args below meth c G S0 S Q (F0 m (pc + 3) ls (.int v :: rest))) : V p l e R s m args below meth c G S0 S Q (F0 m pc ls (va_rf r :: rest)) := by
  cases r with
  | none => cases h
  | some a =>
    unfold getI at h
    by_cases hk : kd S a = ci
    · simp only [if_pos hk] at h
      cases h
      exact v_getf C F hk (by rw [ht]; rfl) d kk
    · simp only [if_neg hk] at h; cases h
theorem v_getL (C : Cx p s m args meth c G S0 y cc nL ret) {index ci k fin : Nat} (F : FL y.cls index ci k fin) (ht : fty ci k = .long) {r : Option Nat} {v : Int64} (h : getL S r ci k = some v) (d : decode cc pc = .ok (.getfield index, 3)) (kk : V p l e R s m args below meth c G S0 S Q (F0 m (pc + 3) ls (.long v :: rest))) : V p l e R s m args below meth c G S0 S Q (F0 m pc ls (va_rf r :: rest)) := by
  cases r with
  | none => cases h
  | some a =>
    unfold getL at h
    by_cases hk : kd S a = ci
    · simp only [if_pos hk] at h
      cases h
      exact v_getf C F hk (by rw [ht]; rfl) d kk
    · simp only [if_neg hk] at h; cases h
theorem v_getR (C : Cx p s m args meth c G S0 y cc nL ret) {index ci k fin : Nat} (F : FL y.cls index ci k fin) (ht : isRf (fty ci k) = true) {r v : Option Nat} (h : getR S r ci k = some v) (d : decode cc pc = .ok (.getfield index, 3)) (kk : V p l e R s m args below meth c G S0 S Q (F0 m (pc + 3) ls (va_rf v :: rest))) : V p l e R s m args below meth c G S0 S Q (F0 m pc ls (va_rf r :: rest)) := by
  cases r with
  | none => cases h
  | some a =>
    unfold getR at h
    by_cases hk : kd S a = ci
    · simp only [if_pos hk] at h
      cases h
      exact v_getf C F hk (vof_r ht) d kk
    · simp only [if_neg hk] at h; cases h
theorem FL.lt {own : String} {index ci k fin : Nat} (F : FL own index ci k fin) : ci < 14 := by obtain ⟨_, _, _, _, h, -⟩ := F; exact h
theorem v_putI (C : Cx p s m args meth c G S0 y cc nL ret) {index ci k fin : Nat} (F : FL y.cls index ci k fin) (hin2 : fin = 0 ∨ fin = 1 ∧ y.name = "<init>") (ht : fty ci k = .int) {r : Option Nat} {v : Int32} (h : putI S r ci k v = some S') (d : decode cc pc = .ok (.putfield index, 3)) (kk : V p l e R s m args below meth c G S0 S' Q (F0 m (pc + 3) ls rest)) : V p l e R s m args below meth c G S0 S Q (F0 m pc ls (.int v :: va_rf r :: rest)) := by
  cases r with
  | none => cases h
  | some a =>
    unfold putI at h
    by_cases hk : kd S a = ci
    · simp only [if_pos hk] at h
      cases h
      exact v_putf (S' := setI S a k v) C F hin2 hk (by rw [ht]; exact nf_i v) rfl rfl (vof_setI S a k v) (by rw [ht]; exact congrArg Value.int (mi_setI S a k v)) (Ext_setI S a k v (by have := F.lt; omega)) d kk
    · simp only [if_neg hk] at h; cases h
theorem v_putL (C : Cx p s m args meth c G S0 y cc nL ret) {index ci k fin : Nat} (F : FL y.cls index ci k fin) (hin2 : fin = 0 ∨ fin = 1 ∧ y.name = "<init>") (ht : fty ci k = .long) {r : Option Nat} {v : Int64} (h : putL S r ci k v = some S') (d : decode cc pc = .ok (.putfield index, 3)) (kk : V p l e R s m args below meth c G S0 S' Q (F0 m (pc + 3) ls rest)) : V p l e R s m args below meth c G S0 S Q (F0 m pc ls (.long v :: va_rf r :: rest)) := by
  cases r with
  | none => cases h
  | some a =>
    unfold putL at h
    by_cases hk : kd S a = ci
    · simp only [if_pos hk] at h
      cases h
      exact v_putf (S' := setL S a k v) C F hin2 hk (by rw [ht]; exact nf_l v) rfl rfl (vof_setL S a k v) (by rw [ht]; exact congrArg Value.long (ml_setL S a k v)) (Ext_setL S a k v) d kk
    · simp only [if_neg hk] at h; cases h
theorem v_putR (C : Cx p s m args meth c G S0 y cc nL ret) {index ci k fin : Nat} (F : FL y.cls index ci k fin) (hin2 : fin = 0 ∨ fin = 1 ∧ y.name = "<init>") (ht : isRf (fty ci k) = true) {r v : Option Nat} (h : putR S r ci k v = some S') (d : decode cc pc = .ok (.putfield index, 3)) (kk : V p l e R s m args below meth c G S0 S' Q (F0 m (pc + 3) ls rest)) : V p l e R s m args below meth c G S0 S Q (F0 m pc ls (va_rf v :: va_rf r :: rest)) := by
  cases r with
  | none => cases h
  | some a =>
    unfold putR at h
    by_cases hk : kd S a = ci
    · simp only [if_pos hk] at h
      cases h
      exact v_putf (S' := setR S a k v) C F hin2 hk (nf_r ht v) rfl rfl (vof_setR S a k v) (by rw [vof_r ht, mr_setR]) (Ext_setR S a k v (by have := F.lt; omega)) d kk
    · simp only [if_neg hk] at h; cases h
end Heap
