/-! account -/
theorem DA.al {S T : St} (h : DA S) (w : WFS S) (q : Fr (fun _ => False) S T) (ht : kd T (emp T) = 21) (hn : ∀ a, nx S ≤ a → kd T a = 0 → mr T a 1 = some (emp T)) : DA T := by
  have hm : ∀ a, a < nx S → mr T a = mr S a := fun a ha => (q.2.2 a ha (fun c => c)).2.2
  refine ⟨fun l e a1 a2 => ?_, fun l1 l2 e a1 a2 a3 a4 a5 => ?_⟩
  · rcases Nat.lt_or_ge l (nx S) with c | c
    · rw [hm l c] at a2
      have := h.1 l e (by rw [← q.kdE c]; exact a1) a2
      rw [q.kdE (w.lt this)]; exact this
    · rw [hn l c a1] at a2
      cases a2
      omega
  · have key : ∀ l, kd T l = 0 → mr T l 1 = some e → l < nx S := fun l k1 k2 => by
      rcases Nat.lt_or_ge l (nx S) with c | c
      · exact c
      · rw [hn l c k1] at k2
        cases k2
        omega
    have b1 := key l1 a1 a3
    have b2 := key l2 a2 a4
    rw [hm l1 b1] at a3
    rw [hm l2 b2] at a4
    have k1 : kd S l1 = 0 := by rw [← q.kdE b1]; exact a1
    have := h.1 l1 e k1 a3
    exact h.2 l1 l2 e k1 (by rw [← q.kdE b2]; exact a2) a3 a4 (by rw [← q.kdE (w.lt this)]; exact a5)
theorem BS.al2 {S T : St} {xb : Nat} (b : BS S xb) (q : Fr (fun _ => False) S T) (hn : ∀ a, nx S ≤ a → kd T a = 0 → mr T a 1 = some (emp T)) : BS T xb := by
  obtain ⟨w, d, x, m, l, n⟩ := b
  have hm : ∀ a, a < nx S → mr T a = mr S a := fun a ha => (q.2.2 a ha (fun c => c)).2.2
  have lT := l.fr w q
  exact ⟨q.2.1 w, d.al w q lT.1 hn, x.fr w q (hm _ (by omega)) (hm _ (by omega)) (hm _ (by omega)) (hm _ (by omega)), m.fr w q (hm _ (by omega)), lT, Nat.le_trans n q.nxle⟩
/-- a new list -/
theorem L_new {T : St} {l : Nat} (hk : kd T l = 0) : f_Jx4a65c_init_da8c8 T l = some (setR (setI T l 0 0) l 1 (some (emp T))) := by
  unfold f_Jx4a65c_init_da8c8 f_Jxc12de_init_da8c8 f_Jxa1e45_init_da8c8
  simp only [rcv_s hk, putI_s hk, Option.bind_some]
  rw [putR_s (show kd (setI T l 0 0) l = 0 from hk)]
  rfl
theorem X0_init {T : St} {a : Nat} (n : Int32) (f : Option Nat) (kk : Int32) (o : Option Nat) (d : Int32) (hk : kd T a = 1) (ha : a < nx T) (hc : nx T + 1 ≤ cap T) (hs : sl T + 3 ≤ 7302250) : ∃ T', f_X0_init T a n f kk o d = some T' ∧ (∀ z, kd T' z = if z = nx T then 0 else kd T z) ∧ mi T' a 0 = n ∧ mr T' a 1 = f ∧ mi T' a 2 = kk ∧ mr T' a 3 = o ∧ mi T' a 4 = d ∧ mr T' a 5 = some (nx T) ∧ mi T' a 6 = 0 ∧ mi T' a 7 = -1 ∧ ml T' a 8 = 0 ∧ mr T' (nx T) 1 = some (emp T) ∧ mi T' (nx T) 2 = 0 ∧ nx T' = nx T + 1 ∧ sl T' = sl T + 3 ∧ Fr (fun z => z = a) T T' := by
  unfold f_X0_init
  have hf0 : nfl 0 = 3 := rfl
  have han : nx T ≠ a := by omega
  rw [newO_s hc (by rw [hf0]; exact hs), hf0]
  simp only [Option.bind_some]
  have k0 : kd (mk0 T 3 0 0) (nx T) = 0 := by rw [kd_mk0, if_pos rfl]
  rw [rcv_s k0]
  simp only [Option.bind_some, L_new k0]
  obtain ⟨A, hA⟩ : ∃ A, A = setR (setI (mk0 T 3 0 0) (nx T) 0 0) (nx T) 1 (some (emp (mk0 T 3 0 0))) := ⟨_, rfl⟩
  rw [← hA]
  have AK : ∀ z, kd A z = if z = nx T then 0 else kd T z := fun z => by rw [hA, kd_setR, kd_setI, kd_mk0]
  have kA : kd A a = 1 := by rw [AK, if_neg (fun e => han e.symm), hk]
  have AF : Fr (fun z => z = a) T A := by
    rw [hA]
    exact (((Fr.rf (fun z => z = a) T).mk 3 0 0).sI (a := nx T) 0 0 (by rw [k0]; omega) (fun e => by omega)).sR (a := nx T) 1 _ (by rw [kd_setI, k0]; omega) (fun e => by omega)
  have A1 : mr A (nx T) 1 = some (emp T) := by rw [hA, mr_setR_i, if_pos ⟨rfl, rfl⟩, emp_mk0]
  have A2 : mi A (nx T) 2 = 0 := by rw [hA, mi_setR_, mi_setI_i, if_neg (by omega), mi_mk0, if_pos rfl]
  have A3 : nx A = nx T + 1 := by rw [hA, nx_setR, nx_setI, nx_mk0]
  have A4 : sl A = sl T + 3 := by rw [hA, sl_setR, sl_setI, sl_mk0]
  clear hA
  obtain ⟨S1, e1, k1, l1, h1, v1, n1, p1, q1, f1⟩ := puR (S := A) 5 (some (nx T)) kA
  rw [e1]
  simp only [Option.bind_some]
  obtain ⟨S2, e2, k2, l2, h2, v2, n2, p2, q2, f2⟩ := puI (S := S1) 6 (0) (show kd S1 a = 1 by rw [k1, kA])
  rw [e2]
  simp only [Option.bind_some]
  obtain ⟨S3, e3, k3, l3, h3, v3, n3, p3, q3, f3⟩ := puI (S := S2) 7 (-1) (show kd S2 a = 1 by rw [k2, k1, kA])
  rw [e3]
  simp only [Option.bind_some]
  obtain ⟨S4, e4, k4, l4, h4, v4, n4, p4, q4, f4⟩ := puL (S := S3) 8 (0) (show kd S3 a = 1 by rw [k3, k2, k1, kA])
  rw [e4]
  simp only [Option.bind_some]
  obtain ⟨S5, e5, k5, l5, h5, v5, n5, p5, q5, f5⟩ := puI (S := S4) 9 (-1) (show kd S4 a = 1 by rw [k4, k3, k2, k1, kA])
  rw [e5]
  simp only [Option.bind_some]
  obtain ⟨S6, e6, k6, l6, h6, v6, n6, p6, q6, f6⟩ := puI (S := S5) 10 (0) (show kd S5 a = 1 by rw [k5, k4, k3, k2, k1, kA])
  rw [e6]
  simp only [Option.bind_some]
  obtain ⟨S7, e7, k7, l7, h7, v7, n7, p7, q7, f7⟩ := puI (S := S6) 0 (n) (show kd S6 a = 1 by rw [k6, k5, k4, k3, k2, k1, kA])
  rw [e7]
  simp only [Option.bind_some]
  obtain ⟨S8, e8, k8, l8, h8, v8, n8, p8, q8, f8⟩ := puR (S := S7) 1 (f) (show kd S7 a = 1 by rw [k7, k6, k5, k4, k3, k2, k1, kA])
  rw [e8]
  simp only [Option.bind_some]
  obtain ⟨S9, e9, k9, l9, h9, v9, n9, p9, q9, f9⟩ := puI (S := S8) 2 (kk) (show kd S8 a = 1 by rw [k8, k7, k6, k5, k4, k3, k2, k1, kA])
  rw [e9]
  simp only [Option.bind_some]
  obtain ⟨S10, e10, k10, l10, h10, v10, n10, p10, q10, f10⟩ := puR (S := S9) 3 (o) (show kd S9 a = 1 by rw [k9, k8, k7, k6, k5, k4, k3, k2, k1, kA])
  rw [e10]
  simp only [Option.bind_some]
  obtain ⟨S11, e11, k11, l11, h11, v11, n11, p11, q11, f11⟩ := puI (S := S10) 4 (d) (show kd S10 a = 1 by rw [k10, k9, k8, k7, k6, k5, k4, k3, k2, k1, kA])
  rw [e11]
  simp only [Option.bind_some]
  have HH : S11.1 = A.1 := by rw [h11, h10, h9, h8, h7, h6, h5, h4, h3, h2, h1]
  have FA : Fr (fun z => z = a) A S11 := ((((((((((f1).tr f2 (fun _ _ e => e)).tr f3 (fun _ _ e => e)).tr f4 (fun _ _ e => e)).tr f5 (fun _ _ e => e)).tr f6 (fun _ _ e => e)).tr f7 (fun _ _ e => e)).tr f8 (fun _ _ e => e)).tr f9 (fun _ _ e => e)).tr f10 (fun _ _ e => e)).tr f11 (fun _ _ e => e)
  have FN := FA.2.2 (nx T) (by omega) han
  refine ⟨S11, rfl, fun z => by rw [k11, k10, k9, k8, k7, k6, k5, k4, k3, k2, k1, AK], ?_, ?_, ?_, ?_, ?_, ?_, ?_, ?_, ?_, by rw [FN.2.2, A1], by rw [FN.1, A2], (congrArg (fun z => z.1) HH).trans A3, (congrArg (fun z => z.2.1) HH).trans A4, AF.tr FA (fun _ _ e => e)⟩
  · rw [n11 0 (by decide), p10, n9 0 (by decide), p8, v7]
  · rw [q11, n10 1 (by decide), q9, v8]
  · rw [n11 2 (by decide), p10, v9]
  · rw [q11, v10]
  · rw [v11]
  · rw [q11, n10 5 (by decide), q9, n8 5 (by decide), q7, q6, q5, q4, q3, q2, v1]
  · rw [n11 6 (by decide), p10, n9 6 (by decide), p8, n7 6 (by decide), n6 6 (by decide), n5 6 (by decide), p4, n3 6 (by decide), v2]
  · rw [n11 7 (by decide), p10, n9 7 (by decide), p8, n7 7 (by decide), n6 7 (by decide), n5 7 (by decide), p4, v3]
  · rw [p11, q10, p9, q8, p7, p6, p5, v4]
