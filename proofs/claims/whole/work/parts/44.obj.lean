/-! OBJECTS MADE: a field put -/
theorem puI {S : St} {a ci : Nat} (k : Nat) (v : Int32) (hk : kd S a = ci) (h20 : ci ≤ 20 := by decide) : ∃ S', putI S (some a) ci k v = some S' ∧ kd S' = kd S ∧ ln S' = ln S ∧ S'.1 = S.1 ∧ mi S' a k = v ∧ (∀ j, j ≠ k → mi S' a j = mi S a j) ∧ ml S' a = ml S a ∧ mr S' a = mr S a ∧ Fr (fun z => z = a) S S' :=
  ⟨_, putI_s hk k v, rfl, rfl, rfl, by rw [mi_setI_i, if_pos ⟨rfl, rfl⟩], fun j hj => by rw [mi_setI_i, if_neg (fun c => hj c.2)], rfl, rfl, Fr_setI k v (by omega) (fun _ => rfl)⟩
theorem puL {S : St} {a ci : Nat} (k : Nat) (v : Int64) (hk : kd S a = ci) (h20 : ci ≤ 20 := by decide) : ∃ S', putL S (some a) ci k v = some S' ∧ kd S' = kd S ∧ ln S' = ln S ∧ S'.1 = S.1 ∧ ml S' a k = v ∧ (∀ j, j ≠ k → ml S' a j = ml S a j) ∧ mi S' a = mi S a ∧ mr S' a = mr S a ∧ Fr (fun z => z = a) S S' :=
  ⟨_, putL_s hk k v, rfl, rfl, rfl, by rw [ml_setL_i, if_pos ⟨rfl, rfl⟩], fun j hj => by rw [ml_setL_i, if_neg (fun c => hj c.2)], rfl, rfl, Fr_setL k v (fun _ => rfl)⟩
theorem puR {S : St} {a ci : Nat} (k : Nat) (v : Option Nat) (hk : kd S a = ci) (h20 : ci ≤ 20 := by decide) : ∃ S', putR S (some a) ci k v = some S' ∧ kd S' = kd S ∧ ln S' = ln S ∧ S'.1 = S.1 ∧ mr S' a k = v ∧ (∀ j, j ≠ k → mr S' a j = mr S a j) ∧ mi S' a = mi S a ∧ ml S' a = ml S a ∧ Fr (fun z => z = a) S S' :=
  ⟨_, putR_s hk k v, rfl, rfl, rfl, by rw [mr_setR_i, if_pos ⟨rfl, rfl⟩], fun j hj => by rw [mr_setR_i, if_neg (fun c => hj c.2)], rfl, rfl, Fr_setR k v (by omega) (fun _ => rfl)⟩
theorem X3_init {T : St} {a : Nat} (s d t u b m : Int32) (hk : kd T a = 4) : ∃ T', f_X3_init T a s d t u b m = some T' ∧ kd T' = kd T ∧ ln T' = ln T ∧ T'.1 = T.1 ∧ mi T' a 0 = s ∧ mi T' a 1 = d ∧ mi T' a 2 = t ∧ mi T' a 3 = u ∧ mi T' a 4 = b ∧ mi T' a 5 = m ∧ Fr (fun z => z = a) T T' := by
  unfold f_X3_init
  obtain ⟨S1, e1, k1, l1, h1, v1, n1, p1, q1, f1⟩ := puI (S := T) 0 (s) hk
  rw [e1]
  simp only [Option.bind_some]
  obtain ⟨S2, e2, k2, l2, h2, v2, n2, p2, q2, f2⟩ := puI (S := S1) 1 (d) (show kd S1 a = 4 by rw [k1, hk])
  rw [e2]
  simp only [Option.bind_some]
  obtain ⟨S3, e3, k3, l3, h3, v3, n3, p3, q3, f3⟩ := puI (S := S2) 2 (t) (show kd S2 a = 4 by rw [k2, k1, hk])
  rw [e3]
  simp only [Option.bind_some]
  obtain ⟨S4, e4, k4, l4, h4, v4, n4, p4, q4, f4⟩ := puI (S := S3) 3 (u) (show kd S3 a = 4 by rw [k3, k2, k1, hk])
  rw [e4]
  simp only [Option.bind_some]
  obtain ⟨S5, e5, k5, l5, h5, v5, n5, p5, q5, f5⟩ := puI (S := S4) 4 (b) (show kd S4 a = 4 by rw [k4, k3, k2, k1, hk])
  rw [e5]
  simp only [Option.bind_some]
  obtain ⟨S6, e6, k6, l6, h6, v6, n6, p6, q6, f6⟩ := puI (S := S5) 5 (m) (show kd S5 a = 4 by rw [k5, k4, k3, k2, k1, hk])
  rw [e6]
  simp only [Option.bind_some]
  refine ⟨S6, rfl, by rw [k6, k5, k4, k3, k2, k1], by rw [l6, l5, l4, l3, l2, l1], by rw [h6, h5, h4, h3, h2, h1], ?_, ?_, ?_, ?_, ?_, ?_, ?_⟩
  · rw [n6 0 (by decide), n5 0 (by decide), n4 0 (by decide), n3 0 (by decide), n2 0 (by decide), v1]
  · rw [n6 1 (by decide), n5 1 (by decide), n4 1 (by decide), n3 1 (by decide), v2]
  · rw [n6 2 (by decide), n5 2 (by decide), n4 2 (by decide), v3]
  · rw [n6 3 (by decide), n5 3 (by decide), v4]
  · rw [n6 4 (by decide), v5]
  · rw [v6]
  · exact (((((f1).tr f2 (fun _ _ e => e)).tr f3 (fun _ _ e => e)).tr f4 (fun _ _ e => e)).tr f5 (fun _ _ e => e)).tr f6 (fun _ _ e => e)
theorem X8_init {T : St} {a : Nat} (y1 y2 y3 y4 : Int32) (p : Option Nat) (hk : kd T a = 9) : ∃ T', f_X8_init T a y1 y2 y3 y4 p = some T' ∧ kd T' = kd T ∧ ln T' = ln T ∧ T'.1 = T.1 ∧ mi T' a 5 = -1 ∧ mi T' a 6 = -1 ∧ mi T' a 7 = 0 ∧ mi T' a 0 = y1 ∧ mi T' a 1 = y2 ∧ mi T' a 2 = y3 ∧ mi T' a 3 = y4 ∧ mr T' a 4 = p ∧ Fr (fun z => z = a) T T' := by
  unfold f_X8_init
  obtain ⟨S1, e1, k1, l1, h1, v1, n1, p1, q1, f1⟩ := puI (S := T) 5 (-1) hk
  rw [e1]
  simp only [Option.bind_some]
  obtain ⟨S2, e2, k2, l2, h2, v2, n2, p2, q2, f2⟩ := puI (S := S1) 6 (-1) (show kd S1 a = 9 by rw [k1, hk])
  rw [e2]
  simp only [Option.bind_some]
  obtain ⟨S3, e3, k3, l3, h3, v3, n3, p3, q3, f3⟩ := puI (S := S2) 7 (0) (show kd S2 a = 9 by rw [k2, k1, hk])
  rw [e3]
  simp only [Option.bind_some]
  obtain ⟨S4, e4, k4, l4, h4, v4, n4, p4, q4, f4⟩ := puI (S := S3) 0 (y1) (show kd S3 a = 9 by rw [k3, k2, k1, hk])
  rw [e4]
  simp only [Option.bind_some]
  obtain ⟨S5, e5, k5, l5, h5, v5, n5, p5, q5, f5⟩ := puI (S := S4) 1 (y2) (show kd S4 a = 9 by rw [k4, k3, k2, k1, hk])
  rw [e5]
  simp only [Option.bind_some]
  obtain ⟨S6, e6, k6, l6, h6, v6, n6, p6, q6, f6⟩ := puI (S := S5) 2 (y3) (show kd S5 a = 9 by rw [k5, k4, k3, k2, k1, hk])
  rw [e6]
  simp only [Option.bind_some]
  obtain ⟨S7, e7, k7, l7, h7, v7, n7, p7, q7, f7⟩ := puI (S := S6) 3 (y4) (show kd S6 a = 9 by rw [k6, k5, k4, k3, k2, k1, hk])
  rw [e7]
  simp only [Option.bind_some]
  obtain ⟨S8, e8, k8, l8, h8, v8, n8, p8, q8, f8⟩ := puR (S := S7) 4 (p) (show kd S7 a = 9 by rw [k7, k6, k5, k4, k3, k2, k1, hk])
  rw [e8]
  simp only [Option.bind_some]
  refine ⟨S8, rfl, by rw [k8, k7, k6, k5, k4, k3, k2, k1], by rw [l8, l7, l6, l5, l4, l3, l2, l1], by rw [h8, h7, h6, h5, h4, h3, h2, h1], ?_, ?_, ?_, ?_, ?_, ?_, ?_, ?_, ?_⟩
  · rw [p8, n7 5 (by decide), n6 5 (by decide), n5 5 (by decide), n4 5 (by decide), n3 5 (by decide), n2 5 (by decide), v1]
  · rw [p8, n7 6 (by decide), n6 6 (by decide), n5 6 (by decide), n4 6 (by decide), n3 6 (by decide), v2]
  · rw [p8, n7 7 (by decide), n6 7 (by decide), n5 7 (by decide), n4 7 (by decide), v3]
  · rw [p8, n7 0 (by decide), n6 0 (by decide), n5 0 (by decide), v4]
  · rw [p8, n7 1 (by decide), n6 1 (by decide), v5]
  · rw [p8, n7 2 (by decide), v6]
  · rw [p8, v7]
  · rw [v8]
  · exact (((((((f1).tr f2 (fun _ _ e => e)).tr f3 (fun _ _ e => e)).tr f4 (fun _ _ e => e)).tr f5 (fun _ _ e => e)).tr f6 (fun _ _ e => e)).tr f7 (fun _ _ e => e)).tr f8 (fun _ _ e => e)
theorem X10_init {T : St} {a : Nat} (s p v : Int32) (hk : kd T a = 11) : ∃ T', f_X10_init T a s p v = some T' ∧ kd T' = kd T ∧ ln T' = ln T ∧ T'.1 = T.1 ∧ mi T' a 0 = s ∧ mi T' a 1 = p ∧ mi T' a 2 = v ∧ Fr (fun z => z = a) T T' := by
  unfold f_X10_init
  obtain ⟨S1, e1, k1, l1, h1, v1, n1, p1, q1, f1⟩ := puI (S := T) 0 (s) hk
  rw [e1]
  simp only [Option.bind_some]
  obtain ⟨S2, e2, k2, l2, h2, v2, n2, p2, q2, f2⟩ := puI (S := S1) 1 (p) (show kd S1 a = 11 by rw [k1, hk])
  rw [e2]
  simp only [Option.bind_some]
  obtain ⟨S3, e3, k3, l3, h3, v3, n3, p3, q3, f3⟩ := puI (S := S2) 2 (v) (show kd S2 a = 11 by rw [k2, k1, hk])
  rw [e3]
  simp only [Option.bind_some]
  refine ⟨S3, rfl, by rw [k3, k2, k1], by rw [l3, l2, l1], by rw [h3, h2, h1], ?_, ?_, ?_, ?_⟩
  · rw [n3 0 (by decide), n2 0 (by decide), v1]
  · rw [n3 1 (by decide), v2]
  · rw [v3]
  · exact ((f1).tr f2 (fun _ _ e => e)).tr f3 (fun _ _ e => e)
